/-! words of the tables, and what of them a field, a method, a call wants -/
def z_tb : List Cond := lw_tbl.filter goodWord
theorem z_mem (i : Nat) {w : Cond} (h : lw_tbl[i]? = some w) (hg : goodWord w = true) : w ∈ z_tb := List.mem_filter.mpr ⟨List.mem_of_getElem? h, hg⟩
theorem z_good {w : Cond} (h : w ∈ z_tb) : goodWord w = true := (List.mem_filter.mp h).2
abbrev zN : Type := (Nat × Nat) ⊕ (Nat × List Nat)
/-- a field by the name that the code has for it -/
def zFL (own : String) (i ci j : Nat) : Prop := ∃ (C : String) (Tt : u_T) (N : Nat), vwCl[ci]? = some (C, Tt, N) ∧ j < N ∧ (∀ w ∈ u_ws C Tt N, w ∈ z_tb) ∧ Cond.fieldLink own i (Tt j).1 (Tt j).2.1 (Tt j).2.2.1 ∈ z_tb
def zFP (own : String) (i ci j : Nat) (ty : FieldType) : Prop := ∃ (C : String) (Tt : u_T) (N : Nat), vwCl[ci]? = some (C, Tt, N) ∧ j < N ∧ (∀ w ∈ u_ws C Tt N, w ∈ z_tb) ∧ Cond.fieldLink own i (Tt j).1 (Tt j).2.1 (Tt j).2.2.1 ∈ z_tb ∧ (∃ ty0 : Nat → FieldType, ∀ k, k < N → parseFieldDescriptor (Tt k).2.2.1 = some (ty0 k)) ∧ (∀ a, a < N → ∀ b, b < N → a ≠ b → (Tt a).2.1 ≠ (Tt b).2.1) ∧ (Tt j).2.2.2 = false ∧ parseFieldDescriptor (Tt j).2.2.1 = some ty
/-- a method's own words, and those of a call -/
def zY (y : MethodName) (code : ByteArray) (nL : Nat) (ret : Option FieldType) (n : Nat) : Prop := Cond.code y code nL ret ∈ z_tb ∧ Cond.initialized y.cls ∈ z_tb ∧ y.cls ≠ "java/lang/invoke/MethodHandle" ∧ y.cls ≠ "java/lang/invoke/VarHandle" ∧ (parseMethodDescriptor y.desc).map (fun d => d.parameters.length) = some n
def zLV (own : String) (i : Nat) (y : MethodName) : Prop := Cond.methodLink own i y ∈ z_tb ∧ Cond.instanceMethod y ∈ z_tb ∧ Cond.selects y.cls y y ∈ z_tb
def zLS (own : String) (i : Nat) (y : MethodName) : Prop := Cond.methodLink own i y ∈ z_tb ∧ Cond.static y ∈ z_tb
