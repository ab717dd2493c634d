/-! what a told function leaves as it was: all places but those of S, of place 39 all slots but those of s -/
def zOut (S s : List Nat) (M M' : zM) : Prop := (∀ k, k ∉ S → k ≠ 39 → M'.1 k = M.1 k ∧ M'.2 k = M.2 k) ∧ ∀ j, j ∉ s → 39 ∉ S → M'.1 39 j = M.1 39 j
section ZOU
variable {S s S' s' : List Nat} {M0 M M' : zM}
theorem zOut.rf : zOut S s M M := ⟨fun _ _ _ => ⟨rfl, rfl⟩, fun _ _ _ => rfl⟩
theorem zOut.si (h : zOut S s M0 M) (k j : Nat) (v : Int32) (hk : k ∈ S ∨ (k = 39 ∧ j ∈ s)) : zOut S s M0 (zsi M k j v) := by
  refine ⟨fun k' h1 h2 => ?_, fun j' h1 h2 => ?_⟩
  · have hne : k' ≠ k := fun e => hk.elim (fun q => h1 (e ▸ q)) (fun q => h2 (e.trans q.1))
    rw [zsi_ne hne]
    exact h.1 k' h1 h2
  · by_cases e : k = 39
    · subst e
      rcases hk with hk | hk
      · exact absurd hk h2
      · have : j' ≠ j := fun e => h1 (e ▸ hk.2)
        rw [zsi_eq, upd, if_neg this]
        exact h.2 j' h1 h2
    · rw [zsi_ne (Ne.symm e)]
      exact h.2 j' h1 h2
theorem zOut.sj (h : zOut S s M0 M) (k j : Nat) (v : Int64) (hk : k ∈ S ∨ (k = 39 ∧ j ∈ s)) : zOut S s M0 (zsj M k j v) := by
  refine ⟨fun k' h1 h2 => ?_, fun j' h1 h2 => h.2 j' h1 h2⟩
  have hne : k' ≠ k := fun e => hk.elim (fun q => h1 (e ▸ q)) (fun q => h2 (e.trans q.1))
  rw [zsj_ne hne]
  exact h.1 k' h1 h2
theorem zOut.pI (h : zOut S s M0 M) {n a : Nat} {i v : Int32} (hx : zpI M n a i v = some M') (ha : a ∈ S) : zOut S s M0 M' := by
  obtain ⟨-, rfl⟩ := z_oi hx
  exact h.si _ _ _ (Or.inl ha)
theorem zOut.pZ (h : zOut S s M0 M) {n a : Nat} {i v : Int32} (hx : zpZ M n a i v = some M') (ha : a ∈ S) : zOut S s M0 M' := h.pI hx ha
theorem zOut.pJ (h : zOut S s M0 M) {n a : Nat} {i : Int32} {v : Int64} (hx : zpJ M n a i v = some M') (ha : a ∈ S) : zOut S s M0 M' := by
  obtain ⟨-, rfl⟩ := z_oi hx
  exact h.sj _ _ _ (Or.inl ha)
theorem zOut.cp (h : zOut S s M0 M) (src dst n : Nat) (hd : dst ∈ S) : zOut S s M0 (zcpI M src dst n) := by
  refine ⟨fun k' h1 h2 => ?_, fun j' h1 h2 => ?_⟩
  · have hne : k' ≠ dst := fun e => h1 (e ▸ hd)
    simp only [zcpI, if_neg hne]
    exact h.1 k' h1 h2
  · have hne : (39 : Nat) ≠ dst := fun e => h2 (e ▸ hd)
    simp only [zcpI, if_neg hne]
    exact h.2 j' h1 h2
theorem zOut.call (h : zOut S s M0 M) (hc : zOut S' s' M M') (hS : ∀ k, k ∈ S' → k ∈ S) (hs : ∀ j, j ∈ s' → j ∈ s) : zOut S s M0 M' := by
  refine ⟨fun k h1 h2 => ?_, fun j h1 h2 => ?_⟩
  · obtain ⟨a, b⟩ := hc.1 k (fun q => h1 (hS k q)) h2
    obtain ⟨a', b'⟩ := h.1 k h1 h2
    exact ⟨a.trans a', b.trans b'⟩
  · exact (hc.2 j (fun q => h1 (hs j q)) (fun q => h2 (hS 39 q))).trans (h.2 j h1 h2)
end ZOU
