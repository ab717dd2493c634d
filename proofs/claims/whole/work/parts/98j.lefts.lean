/-! lefts: the hash set -/
def zha (c : Nat) : Nat := (((c ^^^ c / 2 ^ 10) ^^^ c / 2 ^ 23) ^^^ c / 2 ^ 36) % 1024
theorem zha_lt (c : Nat) : zha c < 1024 := Nat.mod_lt _ (by omega)
theorem zha_e {c : Nat} (hc : c < 2 ^ 62) : Int64.toInt32 ((((lN c ^^^ (zlushr (lN c) 10)) ^^^ (zlushr (lN c) 23)) ^^^ (zlushr (lN c) 36)) &&& (1023 : Int64)) = nI (zha c) := by
  have e1 : zlushr (lN c) 10 = lN (c / 2 ^ 10) := wb_shr (k := 10) (by omega) (by omega)
  have e2 : zlushr (lN c) 23 = lN (c / 2 ^ 23) := wb_shr (k := 23) (by omega) (by omega)
  have e3 : zlushr (lN c) 36 = lN (c / 2 ^ 36) := wb_shr (k := 36) (by omega) (by omega)
  have b1 : c ^^^ c / 2 ^ 10 < 2 ^ 62 := Nat.xor_lt_two_pow hc (Nat.lt_of_le_of_lt (Nat.div_le_self _ _) hc)
  have b2 : (c ^^^ c / 2 ^ 10) ^^^ c / 2 ^ 23 < 2 ^ 62 := Nat.xor_lt_two_pow b1 (Nat.lt_of_le_of_lt (Nat.div_le_self _ _) hc)
  have b3 : ((c ^^^ c / 2 ^ 10) ^^^ c / 2 ^ 23) ^^^ c / 2 ^ 36 < 2 ^ 62 := Nat.xor_lt_two_pow b2 (Nat.lt_of_le_of_lt (Nat.div_le_self _ _) hc)
  rw [e1, e2, e3, wb_xorN, wb_xorN, wb_xorN, show (1023 : Int64) = lN (2 ^ 10 - 1) from rfl, wb_mask (by omega) (by omega), lN_i]
  rfl
theorem zsum_one : ∀ n, zsum (fun _ => 1) n = n := by
  intro n
  induction n with
  | zero => rfl
  | succ n ih => rw [zsum, ih]
theorem zsum_put {T : Nat → Nat} {v c : Nat} (hT : T v = 0) (hc : c ≠ 0) : ∀ n, zsum (fun i => if (if i = v then c else T i) = 0 then 0 else 1) n = zsum (fun i => if T i = 0 then 0 else 1) n + if v < n then 1 else 0 := by
  intro n
  induction n with
  | zero => rfl
  | succ n ih =>
    rw [zsum, zsum, ih]
    by_cases g : n = v
    · subst g
      rw [if_pos rfl, if_neg hc, if_pos hT, if_neg (by omega), if_pos (by omega)]
    · rw [if_neg g]
      by_cases g2 : v < n
      · rw [if_pos g2, if_pos (show v < n + 1 by omega)]
        omega
      · rw [if_neg g2, if_neg (show ¬ v < n + 1 by omega)]
        omega
/-- a table of 1024 places that holds the codes of a list -/
def zHs (x : zM) (R : List Nat) : Prop := ∃ T : Nat → Nat, (∀ i, i < 1024 → x.2 29 i = lN (T i) ∧ T i < 2 ^ 62) ∧ (∀ i, i < 1024 → T i ≠ 0 → T i ∈ R) ∧ (∀ c, c ∈ R → c ≠ 0 ∧ ∃ d, d < 1024 ∧ T ((zha c + d) % 1024) = c ∧ ∀ d', d' < d → T ((zha c + d') % 1024) ≠ 0) ∧ zsum (fun i => if T i = 0 then 0 else 1) 1024 = R.length
theorem zHs.to {x y : zM} {R : List Nat} (h : zHs x R) (h1 : y.2 29 = x.2 29) : zHs y R := by
  simp only [zHs, h1]
  exact h
theorem zHs_0 {x : zM} (h : ∀ i, i < 1024 → x.2 29 i = 0) : zHs x [] := by
  refine ⟨fun _ => 0, fun i hi => ⟨by rw [h i hi]; rfl, show (0 : Nat) < 2 ^ 62 by decide⟩, fun i _ q => absurd rfl q, fun c hc => by simp at hc, ?_⟩
  have key : ∀ n, zsum (fun i => if (0 : Nat) = 0 then 0 else 1) n = 0 := by
    intro n
    induction n with
    | zero => rfl
    | succ n ih => rw [zsum, ih, if_pos rfl]
  exact key 1024
theorem c_isNew {M : zM} {R : List Nat} (h : zHs M R) {c : Nat} (h0 : c ≠ 0) (hc : c < 2 ^ 62) (hR : R.length < 1024) : (c ∈ R ∧ ∃ M', f1_isNew (lN c) M = some (0, M') ∧ zHs M' R) ∨ (c ∉ R ∧ ∃ M', f1_isNew (lN c) M = some (1, M') ∧ zHs M' (R ++ [c])) := by
  obtain ⟨T, t1, t2, t3, t4⟩ := h
  have hh := zha_lt c
  rw [f1_isNew, zha_e hc]
  rw [show f1_isNew_28 zfuel (lN c) (nI (zha c)) 0 M = f1_isNew_28 zfuel (lN c) (nI ((zha c + 0) % 1024)) (nI 0) M by rw [Nat.add_zero, Nat.mod_eq_of_lt hh]; rfl]
  refine zloopP (σ := Unit) (F := fun f d _ => f1_isNew_28 f (lN c) (nI ((zha c + d) % 1024)) (nI d) M) (I := fun d _ => ∀ d', d' < d → T ((zha c + d') % 1024) ≠ 0 ∧ T ((zha c + d') % 1024) ≠ c) (P := fun o => (c ∈ R ∧ ∃ M', o = some (0, M') ∧ zHs M' R) ∨ (c ∉ R ∧ ∃ M', o = some (1, M') ∧ zHs M' (R ++ [c]))) 1024 (by omega) (k0 := 0) (by omega) (fun f d x _ hd hI => ?_) (fun f x hI => ?_) (x := ()) (fun d' hd' => absurd hd' (by omega))
  · obtain ⟨v, hv⟩ : ∃ v, v = (zha c + d) % 1024 := ⟨_, rfl⟩
    have hvl : v < 1024 := by rw [hv]; exact Nat.mod_lt _ (by omega)
    obtain ⟨q1, q2⟩ := t1 v hvl
    have en : (nI v + 1) &&& (1023 : Int32) = nI ((zha c + (d + 1)) % 1024) := by
      rw [nI_1, show (1023 : Int32) = nI (2 ^ 10 - 1) from rfl, nI_and, Nat.and_two_pow_sub_one_eq_mod]
      congr 1
      omega
    have st : f1_isNew_28 (f + 1) (lN c) (nI v) (nI d) M = if T v = c then some (0, M) else if T v = 0 then some (1, zsj M 29 v (lN c)) else f1_isNew_28 f (lN c) (nI ((zha c + (d + 1)) % 1024)) (nI (d + 1)) M := by
      rw [f1_isNew_28, if_neg (show ¬ (1024 : Int32) ≤ nI d from nI_ge (b := 1024) (by omega) (by omega)), zaJ_n hvl (by omega), q1, Option.bind_some]
      by_cases g : T v = c
      · rw [if_pos g, if_pos ((lgc_eq _ _).mpr (by rw [g]))]
      · rw [if_neg g, if_neg (fun q => g ((pk_lEQ (by omega) (by omega)).mp ((lgc_eq _ _).mp q))), Option.bind_some]
        by_cases g2 : T v = 0
        · rw [if_pos g2, if_pos ((lg0 (by omega)).mpr g2), zpJ_n hvl (by omega), Option.bind_some]
        · rw [if_neg g2, if_neg (fun q => g2 ((lg0 (by omega)).mp q)), en, nI_1]
    show (∃ y, f1_isNew_28 (f + 1) (lN c) (nI ((zha c + d) % 1024)) (nI d) M = _ ∧ _) ∨ _
    rw [← hv, st]
    by_cases g : T v = c
    · rw [if_pos g]
      exact Or.inr (Or.inl ⟨by rw [← g]; exact t2 v hvl (by rw [g]; exact h0), M, rfl, T, t1, t2, t3, t4⟩)
    · rw [if_neg g]
      by_cases g2 : T v = 0
      · rw [if_pos g2]
        have hno : c ∉ R := by
          intro q
          obtain ⟨-, d0, r1, r2, r3⟩ := t3 c q
          by_cases k1 : d0 < d
          · exact (hI d0 k1).2 r2
          · by_cases k2 : d0 = d
            · rw [k2, ← hv] at r2
              exact g r2
            · have := r3 d (by omega)
              rw [← hv] at this
              exact this g2
        refine Or.inr (Or.inr ⟨hno, _, rfl, fun i => if i = v then c else T i, fun i hi => ?_, fun i hi q => ?_, fun c' hc' => ?_, ?_⟩)
        · show _ ∧ (if i = v then c else T i) < 2 ^ 62
          rw [zsj2]
          by_cases k : i = v
          · rw [if_pos ⟨rfl, k⟩, if_pos k]
            exact ⟨by show lN c = lN (if i = v then c else T i); rw [if_pos k], hc⟩
          · rw [if_neg (fun q => k q.2), if_neg k]
            exact ⟨by show _ = lN (if i = v then c else T i); rw [if_neg k]; exact (t1 i hi).1, (t1 i hi).2⟩
        · show (if i = v then c else T i) ∈ R ++ [c]
          have q' : (if i = v then c else T i) ≠ 0 := q
          by_cases k : i = v
          · rw [if_pos k]
            exact List.mem_append_right _ (List.mem_singleton.mpr rfl)
          · rw [if_neg k] at q' ⊢
            exact List.mem_append_left _ (t2 i hi q')
        · rcases List.mem_append.mp hc' with k | k
          · obtain ⟨r0, d0, r1, r2, r3⟩ := t3 c' k
            refine ⟨r0, d0, r1, ?_, fun d' hd' => ?_⟩
            · show (if (zha c' + d0) % 1024 = v then c else T ((zha c' + d0) % 1024)) = c'
              by_cases k2 : (zha c' + d0) % 1024 = v
              · rw [k2] at r2
                exact absurd (r2.symm.trans g2) r0
              · rw [if_neg k2, r2]
            · show (if (zha c' + d') % 1024 = v then c else T ((zha c' + d') % 1024)) ≠ 0
              split
              · exact h0
              · exact r3 d' hd'
          · have := List.mem_singleton.mp k
            subst this
            refine ⟨h0, d, hd, ?_, fun d' hd' => ?_⟩
            · show (if (zha c' + d) % 1024 = v then c' else T ((zha c' + d) % 1024)) = c'
              rw [if_pos hv.symm]
            · show (if (zha c' + d') % 1024 = v then c' else T ((zha c' + d') % 1024)) ≠ 0
              split
              · exact h0
              · exact (hI d' hd').1
        · rw [zsum_put g2 h0, if_pos hvl, t4, List.length_append]
          rfl
      · rw [if_neg g2]
        refine Or.inl ⟨(), rfl, fun d' hd' => ?_⟩
        by_cases k : d' = d
        · rw [k, ← hv]
          exact ⟨g2, g⟩
        · exact hI d' (by omega)
  · exfalso
    have hall : ∀ i, i < 1024 → T i ≠ 0 := by
      intro i hi
      have := (hI ((i + 1024 - zha c) % 1024) (Nat.mod_lt _ (by omega))).1
      rwa [show (zha c + (i + 1024 - zha c) % 1024) % 1024 = i by omega] at this
    rw [zsum_congr (g' := fun _ => 1) (fun i hi => if_neg (hall i hi)), zsum_one] at t4
    omega
/-! the reference's numbers of cloths -/
def zasn (Q : zQ3) : Nat → Nat
  | 0 => 10 * Q.1 + Q.2.1
  | i + 1 => 64 * zasn Q i + Q.2.2 i
theorem zasn_b {Q : zQ3} : ∀ n, (∀ i, i < n → Q.2.2 i < 64) → (10 * Q.1 + Q.2.1) * 64 ^ n ≤ zasn Q n ∧ zasn Q n < (10 * Q.1 + Q.2.1 + 1) * 64 ^ n := by
  intro n
  induction n with
  | zero =>
    intro _
    rw [zasn, Nat.pow_zero]
    omega
  | succ n ih =>
    intro h
    obtain ⟨h1, h2⟩ := ih (fun i hi => h i (by omega))
    have h3 := h n (by omega)
    rw [zasn, Nat.pow_succ, ← Nat.mul_assoc, ← Nat.mul_assoc]
    omega
theorem zasn_eq {Q Q' : zQ3} : ∀ n, (∀ i, i < n → Q.2.2 i < 64 ∧ Q'.2.2 i < 64) → (zasn Q n = zasn Q' n ↔ 10 * Q.1 + Q.2.1 = 10 * Q'.1 + Q'.2.1 ∧ ∀ i, i < n → Q.2.2 i = Q'.2.2 i) := by
  intro n
  induction n with
  | zero =>
    intro _
    exact ⟨fun q => ⟨q, fun i hi => absurd hi (by omega)⟩, fun q => q.1⟩
  | succ n ih =>
    intro h
    have q := ih (fun i hi => h i (by omega))
    obtain ⟨a1, a2⟩ := h n (by omega)
    rw [zasn, zasn]
    constructor
    · intro r
      have e1 : zasn Q n = zasn Q' n := by omega
      have e2 : Q.2.2 n = Q'.2.2 n := by omega
      obtain ⟨b1, b2⟩ := q.mp e1
      refine ⟨b1, fun i hi => ?_⟩
      by_cases g : i = n
      · rw [g, e2]
      · exact b2 i (by omega)
    · rintro ⟨b1, b2⟩
      rw [q.mpr ⟨b1, fun i hi => b2 i (by omega)⟩, b2 n (by omega)]
theorem zasn_lt {Q Q' : zQ3} (h2 : Q.2.1 ≤ 6) (h3 : ∀ i, i < Q.1 → Q.2.2 i < 64) (g3 : ∀ i, i < Q'.1 → Q'.2.2 i < 64) (h : Q.1 < Q'.1) : zasn Q Q.1 < zasn Q' Q'.1 := by
  have a1 := (zasn_b Q.1 h3).2
  have a2 := (zasn_b Q'.1 g3).1
  have a3 : 64 ^ (Q.1 + 1) ≤ 64 ^ Q'.1 := Nat.pow_le_pow_right (by omega) h
  have a4 : (10 * Q.1 + Q.2.1 + 1) * 64 ^ Q.1 ≤ ((10 * Q'.1 + Q'.2.1) * 64) * 64 ^ Q.1 := Nat.mul_le_mul_right _ (by omega)
  have a5 : (10 * Q'.1 + Q'.2.1) * 64 ^ (Q.1 + 1) ≤ (10 * Q'.1 + Q'.2.1) * 64 ^ Q'.1 := Nat.mul_le_mul_left _ a3
  rw [Nat.pow_succ, Nat.mul_comm (64 ^ Q.1), ← Nat.mul_assoc] at a5
  omega
theorem zasn_X {Q Q' : zQ3} (h1 : Q.1 ≤ 6) (h2 : Q.2.1 ≤ 6) (h3 : ∀ i, i < Q.1 → Q.2.2 i < 64) (g1 : Q'.1 ≤ 6) (g2 : Q'.2.1 ≤ 6) (g3 : ∀ i, i < Q'.1 → Q'.2.2 i < 64) : zasn Q Q.1 = zasn Q' Q'.1 ↔ zshX Q = zshX Q' := by
  rw [zshX_inj h1 h2 h3 g1 g2 g3]
  constructor
  · intro q
    have e1 : Q.1 = Q'.1 := by
      by_cases k : Q.1 < Q'.1
      · have := zasn_lt h2 h3 g3 k
        omega
      · by_cases k2 : Q'.1 < Q.1
        · have := zasn_lt g2 g3 h3 k2
          omega
        · omega
    rw [e1] at q
    obtain ⟨b1, b2⟩ := (zasn_eq Q'.1 (fun i hi => ⟨h3 i (by omega), g3 i hi⟩)).mp q
    exact ⟨e1, by omega, b2⟩
  · rintro ⟨e1, e2, e3⟩
    rw [e1]
    exact (zasn_eq Q'.1 (fun i hi => ⟨h3 i (by omega), g3 i hi⟩)).mpr ⟨by omega, e3⟩
theorem r_asNumber {M : zM} {Q : zQ3} (h : zRr M 42 Q.1 Q.2.1 Q.2.2) (h1 : Q.1 ≤ 6) (h2 : Q.2.1 ≤ 6) (h3 : ∀ i, i < Q.1 → Q.2.2 i < 64) : f9_asNumber 42 M = some (lN (zasn Q Q.1)) := by
  rw [f9_asNumber, h.1, h.2.1, nI_l (by omega), nI_l (by omega), show (10 : Int64) = lN 10 from rfl, lN_mul, lN_add]
  refine zloop0 (F := fun f i => f9_asNumber_18 42 f (lN (zasn Q i)) (nI i) M) Q.1 (by omega) (fun f i hi => ?_) (fun f => ?_)
  · have := h3 i hi
    show f9_asNumber_18 42 (f + 1) _ (nI i) M = _
    rw [f9_asNumber_18, h.1, if_neg (nI_ge hi (by omega)), zaI_n (by omega) (by omega), h.2.2 i hi, Option.bind_some, nI_l (by omega), show (64 : Int64) = lN 64 from rfl, lN_mul, lN_add, nI_1]
    rfl
  · show f9_asNumber_18 42 (f + 1) _ (nI Q.1) M = _
    rw [f9_asNumber_18, h.1, if_pos (nI_le (Nat.le_refl _) (by omega))]
/-! the sets that count -/
def zvl (n p e s : Nat) : Bool := zsS p e s && (zbc s == n && (!(s % 64 == 2 ^ p - 1) && !(s / 64 == 2 ^ e - 1)))
def zcd (p e : Nat) (w : Nat → Nat) (s : Nat) : Nat := zshX (zlv s p e w 12)
/-- the first sets of each cloth -/
def zrp2 (n p e : Nat) (w : Nat → Nat) : Nat → List Nat
  | 0 => []
  | m + 1 => if zvl n p e m = true ∧ zcd p e w m ∉ (zrp2 n p e w m).map (zcd p e w) then zrp2 n p e w m ++ [m] else zrp2 n p e w m
def zmn (n p e m : Nat) : Nat := zsum (fun s => if zvl n p e s = true then 1 else 0) m
theorem zrp2_skip {n p e : Nat} {w : Nat → Nat} {m k : Nat} (hmk : m ≤ k) (h : ∀ x, m ≤ x → x < k → zvl n p e x = false) : zrp2 n p e w k = zrp2 n p e w m ∧ zmn n p e k = zmn n p e m := by
  induction k with
  | zero =>
    have : m = 0 := by omega
    rw [this]
    exact ⟨rfl, rfl⟩
  | succ k ih =>
    by_cases g : m = k + 1
    · rw [g]
      exact ⟨rfl, rfl⟩
    · obtain ⟨i1, i2⟩ := ih (by omega) (fun x h1 h2 => h x h1 (by omega))
      have hk := h k (by omega) (by omega)
      refine ⟨?_, ?_⟩
      · rw [zrp2, if_neg (fun q => by rw [hk] at q; exact absurd q.1 (by decide))]
        exact i1
      · rw [← i2]
        show zmn n p e k + (if zvl n p e k = true then 1 else 0) = _
        rw [hk, if_neg (by decide), Nat.add_zero]
theorem zrp2_len {n p e : Nat} {w : Nat → Nat} : ∀ m, (zrp2 n p e w m).length ≤ zmn n p e m := by
  intro m
  induction m with
  | zero => exact Nat.le_refl 0
  | succ m ih =>
    show _ ≤ zmn n p e m + (if zvl n p e m = true then 1 else 0)
    rw [zrp2]
    by_cases g : zvl n p e m = true ∧ zcd p e w m ∉ (zrp2 n p e w m).map (zcd p e w)
    · rw [if_pos g, if_pos g.1, List.length_append]
      show _ + 1 ≤ _
      omega
    · rw [if_neg g]
      omega
theorem zsum_blk (g : Nat → Nat) : ∀ B, zsum g (64 * B) = zsum (fun b => zsum (fun a => g (64 * b + a)) 64) B := by
  have key : ∀ (m d : Nat), zsum g (m + d) = zsum g m + zsum (fun a => g (m + a)) d := by
    intro m d
    induction d with
    | zero => rfl
    | succ d ih =>
      show zsum g (m + d) + g (m + d) = _
      rw [ih, zsum, Nat.add_assoc]
  intro B
  induction B with
  | zero => rfl
  | succ B ih =>
    rw [show 64 * (B + 1) = 64 * B + 64 by omega, key, ih]
    rfl
theorem zcz : ∀ n, n < 5 → zsum (fun b => zsum (fun a => if zbc (64 * b + a) = n then 1 else 0) 64) 64 ≤ 495 := by decide +kernel
theorem zmn_le {n p e : Nat} (hn : n < 5) {m : Nat} (hm : m ≤ 4096) : zmn n p e m ≤ 495 := by
  have h1 : zmn n p e m ≤ zsum (fun s => if zbc s = n then 1 else 0) m := by
    refine zsum_mono (fun s _ => ?_)
    by_cases g : zvl n p e s = true
    · have : zbc s = n := by
        unfold zvl at g
        rw [Bool.and_eq_true, Bool.and_eq_true] at g
        exact beq_iff_eq.mp g.2.1
      rw [if_pos g, if_pos this]
      exact Nat.le_refl _
    · rw [if_neg g]
      exact Nat.zero_le _
  have h2 : ∀ d, zsum (fun s => if zbc s = n then 1 else 0) m ≤ zsum (fun s => if zbc s = n then 1 else 0) (m + d) := by
    intro d
    induction d with
    | zero => exact Nat.le_refl _
    | succ d ih =>
      show _ ≤ zsum _ (m + d) + _
      omega
  have h3 := h2 (4096 - m)
  rw [show m + (4096 - m) = 64 * 64 by omega, zsum_blk] at h3
  have := zcz n hn
  omega
