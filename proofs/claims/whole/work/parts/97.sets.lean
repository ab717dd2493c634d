/-! sets of threads: those of all, one after the other -/
theorem zsplit_and {x0 x1 a b : Nat} (hx : x0 < 64) (ha : a < 64) : (x0 + x1 * 64) &&& (a + b * 64) = (x0 &&& a) + (x1 &&& b) * 64 := by
  have h1 : x0 &&& a < 2 ^ 6 := Nat.and_lt_two_pow _ ha
  have c1 : x0 &&& b * 64 = 0 := by rw [Nat.and_comm]; exact zmul64 b hx
  have c2 : x1 * 64 &&& a = 0 := zmul64 x1 ha
  have c3 := zand64 x1 b
  have p1 : x0 ||| x1 * 64 = x0 + x1 * 64 := zor_disj (n := 6) hx
  have p2 : a ||| b * 64 = a + b * 64 := zor_disj (n := 6) ha
  have p3 : (x0 &&& a) ||| (x1 &&& b) * 64 = (x0 &&& a) + (x1 &&& b) * 64 := zor_disj (n := 6) h1
  rw [← p1, ← p2, ← p3]
  apply Nat.eq_of_testBit_eq
  intro i
  have e1 : (x0.testBit i && (b * 64).testBit i) = false := by rw [← Nat.testBit_and, c1, Nat.zero_testBit]
  have e2 : ((x1 * 64).testBit i && a.testBit i) = false := by rw [← Nat.testBit_and, c2, Nat.zero_testBit]
  have e3 : ((x1 &&& b) * 64).testBit i = ((x1 * 64).testBit i && (b * 64).testBit i) := by rw [← Nat.testBit_and, c3]
  rw [Nat.testBit_and, Nat.testBit_or, Nat.testBit_or, Nat.testBit_or, Nat.testBit_and, e3]
  revert e1 e2
  cases x0.testBit i <;> cases a.testBit i <;> cases (x1 * 64).testBit i <;> cases (b * 64).testBit i <;> decide
/-- a set of p picks and e ends -/
def zss (p e s : Nat) : Prop := s % 64 < 2 ^ p ∧ s / 64 < 2 ^ e
theorem zpe {p : Nat} (h : p ≤ 6) : 2 ^ p ≤ 64 ∧ 1 ≤ 2 ^ p := zfull_lt h
theorem zss_lt {p e s : Nat} (hp : p ≤ 6) (he : e ≤ 6) (h : zss p e s) : s < 4096 ∧ s ≤ zall p e := by
  have := zpe hp
  have := zpe he
  obtain ⟨h1, h2⟩ := h
  unfold zall
  constructor <;> omega
theorem zall_e (p e : Nat) : zall p e = (2 ^ p - 1) + (2 ^ e - 1) * 64 := rfl
theorem zss_and {p e s : Nat} (hp : p ≤ 6) : (s &&& zall p e) = s % 64 % 2 ^ p + s / 64 % 2 ^ e * 64 := by
  have := zpe hp
  have e1 : s = s % 64 + s / 64 * 64 := by omega
  rw [zall_e]
  generalize hx0 : s % 64 = x0 at e1
  generalize s / 64 = x1 at e1
  rw [e1, zsplit_and (by omega) (by omega), Nat.and_two_pow_sub_one_eq_mod, Nat.and_two_pow_sub_one_eq_mod]
theorem zss_iff {p e s : Nat} (hp : p ≤ 6) : zss p e s ↔ s &&& zall p e = s := by
  have h1 := zpe hp
  rw [zss_and hp]
  have m1 : s % 64 % 2 ^ p < 2 ^ p := Nat.mod_lt _ (by omega)
  have m2 : s / 64 % 2 ^ e < 2 ^ e := Nat.mod_lt _ (Nat.two_pow_pos e)
  have l1 : s % 64 % 2 ^ p ≤ s % 64 := Nat.mod_le _ _
  have l2 : s / 64 % 2 ^ e ≤ s / 64 := Nat.mod_le _ _
  constructor
  · rintro ⟨q1, q2⟩
    rw [Nat.mod_eq_of_lt q1, Nat.mod_eq_of_lt q2]
    omega
  · intro q
    have a1 : s % 64 % 2 ^ p = s % 64 := by omega
    have a2 : s / 64 % 2 ^ e = s / 64 := by omega
    exact ⟨by omega, by omega⟩
theorem zss_df {p e s : Nat} (hp : p ≤ 6) : zdf s (zall p e) = 0 ↔ zss p e s := by
  rw [zss_iff hp]
  constructor
  · intro q
    apply Nat.eq_of_testBit_eq
    intro i
    have := congrArg (fun z => z.testBit i) q
    simp only [zdf_bit, Nat.zero_testBit] at this
    rw [Nat.testBit_and]
    revert this
    cases s.testBit i <;> cases (zall p e).testBit i <;> decide
  · intro q
    unfold zdf
    rw [q, Nat.xor_self]
theorem zss_sb {p e s : Nat} {w : Nat → Nat} (hc : zCl p e w) (h : zss p e s) : zsb p e s := by
  intro t ht
  refine zall_sb (w := w) hc t ?_
  have := (zss_iff hc.2.1).mp h
  rw [← this, Nat.testBit_and] at ht
  revert ht
  cases (zall p e).testBit t <;> simp
/-- the sets in turn -/
def zsu (p k : Nat) : Nat := k % 2 ^ p + k / 2 ^ p * 64
theorem zsu_ss {p e k : Nat} (hp : p ≤ 6) (hk : k < 2 ^ (p + e)) : zss p e (zsu p k) := by
  have h1 := zpe hp
  have m1 : k % 2 ^ p < 2 ^ p := Nat.mod_lt _ (by omega)
  have d1 : k / 2 ^ p < 2 ^ e := by
    rw [Nat.div_lt_iff_lt_mul (by omega), Nat.mul_comm, ← Nat.pow_add]
    exact hk
  unfold zsu zss
  constructor
  · omega
  · omega
theorem zsu_next0 {a b A B : Nat} (ha : a ≤ A) (hb : b ≤ B) (hA : A < 64) (hB : B < 64) : nI (a + b * 64) - nI (A + B * 64) = nI ((a + 64 - A) + (b + (67108863 - B)) * 64) := by
  have e1 : nI ((a + 64 - A) + (b + (67108863 - B)) * 64) = nI (a + b * 64 + (4294967296 - (A + B * 64))) := by
    congr 1
    omega
  rw [e1]
  apply Int32.toBitVec_inj.mp
  apply BitVec.eq_of_toNat_eq
  rw [Int32.toBitVec_sub, BitVec.toNat_sub, nI_bv, nI_bv, nI_bv, BitVec.toNat_ofNat, BitVec.toNat_ofNat, BitVec.toNat_ofNat]
  omega
theorem zmd : ∀ p, p < 7 → ∀ a, a < 2 ^ p → (a + 64 - (2 ^ p - 1)) % 64 % 2 ^ p = (if a + 1 < 2 ^ p then a + 1 else 0) ∧ (a + 64 - (2 ^ p - 1)) / 64 = if a + 1 < 2 ^ p then 0 else 1 := by decide +kernel
theorem zmd2 : ∀ e, e < 7 → ∀ b, b < 2 ^ e → (b + (67108863 - (2 ^ e - 1))) % 2 ^ e = b ∧ (b + (67108863 - (2 ^ e - 1)) + 1) % 2 ^ e = if b + 1 < 2 ^ e then b + 1 else 0 := by decide +kernel
theorem zsu_next {p e a b : Nat} (hp : p ≤ 6) (he : e ≤ 6) (ha : a < 2 ^ p) (hb : b < 2 ^ e) : (nI (a + b * 64) - nI (zall p e)) &&& nI (zall p e) = nI (if a + 1 < 2 ^ p then a + 1 + b * 64 else if b + 1 < 2 ^ e then (b + 1) * 64 else 0) := by
  have h1 := zpe hp
  have h2 := zpe he
  obtain ⟨q1, q2⟩ := zmd p (by omega) a ha
  obtain ⟨q3, q4⟩ := zmd2 e (by omega) b hb
  rw [zall_e, zsu_next0 (by omega) (by omega) (by omega) (by omega), nI_and, ← zall_e, zss_and hp]
  congr 1
  have e1 : ((a + 64 - (2 ^ p - 1)) + (b + (67108863 - (2 ^ e - 1))) * 64) % 64 = (a + 64 - (2 ^ p - 1)) % 64 := by omega
  have e2 : ((a + 64 - (2 ^ p - 1)) + (b + (67108863 - (2 ^ e - 1))) * 64) / 64 = (b + (67108863 - (2 ^ e - 1))) + (a + 64 - (2 ^ p - 1)) / 64 := by omega
  rw [e1, e2, q1, q2]
  by_cases g : a + 1 < 2 ^ p
  · rw [if_pos g, if_pos g, if_pos g]
    exact congrArg (fun z => a + 1 + z * 64) q3
  · rw [if_neg g, if_neg g, if_neg g, q4]
    by_cases g2 : b + 1 < 2 ^ e
    · rw [if_pos g2, if_pos g2]
      omega
    · rw [if_neg g2, if_neg g2]
/-- the next one, by its number -/
theorem zsu_s {p e k : Nat} (hp : p ≤ 6) (he : e ≤ 6) (hk : k < 2 ^ (p + e)) : (nI (zsu p k) - nI (zall p e)) &&& nI (zall p e) = nI (if k + 1 < 2 ^ (p + e) then zsu p (k + 1) else 0) := by
  have h1 := zpe hp
  obtain ⟨u1, u2⟩ := zsu_ss hp hk
  have m1 : k % 2 ^ p < 2 ^ p := Nat.mod_lt _ (by omega)
  have d1 : k / 2 ^ p < 2 ^ e := by
    rw [Nat.div_lt_iff_lt_mul (by omega), Nat.mul_comm, ← Nat.pow_add]
    exact hk
  have hd := Nat.div_add_mod k (2 ^ p)
  have hpe : 2 ^ (p + e) = 2 ^ p * 2 ^ e := Nat.pow_add 2 p e
  rw [zsu, zsu_next hp he m1 d1]
  congr 1
  generalize hA : k % 2 ^ p = a at m1 hd
  generalize hB : k / 2 ^ p = b at d1 hd
  by_cases g : a + 1 < 2 ^ p
  · obtain ⟨v1, v2⟩ := zqr (q := b) g
    have ek : k + 1 = b * 2 ^ p + (a + 1) := by rw [Nat.mul_comm]; omega
    have hlt : k + 1 < 2 ^ (p + e) := by
      have : (b + 1) * 2 ^ p ≤ 2 ^ e * 2 ^ p := Nat.mul_le_mul_right _ d1
      rw [Nat.add_mul, Nat.mul_comm (2 ^ e)] at this
      rw [hpe, ek]
      omega
    rw [if_pos g, if_pos hlt, zsu, ek, v1, v2]
  · have ek : k + 1 = (b + 1) * 2 ^ p + 0 := by rw [Nat.add_mul, Nat.mul_comm b]; omega
    obtain ⟨v1, v2⟩ := zqr (q := b + 1) (r := 0) (d := 2 ^ p) (by omega)
    rw [if_neg g]
    by_cases g2 : b + 1 < 2 ^ e
    · have hlt : k + 1 < 2 ^ (p + e) := by
        have : (b + 1 + 1) * 2 ^ p ≤ 2 ^ e * 2 ^ p := Nat.mul_le_mul_right _ g2
        rw [Nat.add_mul _ 1, Nat.mul_comm (2 ^ e)] at this
        rw [hpe, ek]
        omega
      rw [if_pos g2, if_pos hlt, zsu, ek, v1, v2, Nat.zero_add]
    · have hge : ¬ k + 1 < 2 ^ (p + e) := by
        have : 2 ^ e * 2 ^ p ≤ (b + 1) * 2 ^ p := Nat.mul_le_mul_right _ (by omega)
        rw [Nat.mul_comm (2 ^ e)] at this
        rw [hpe, ek]
        omega
      rw [if_neg g2, if_neg hge]
theorem zsu_0 (p : Nat) : zsu p 0 = 0 := by
  have := Nat.two_pow_pos p
  simp [zsu]
theorem zsu_pos {p k : Nat} (hk : 0 < k) : zsu p k ≠ 0 := by
  have h1 := Nat.two_pow_pos p
  have hd := Nat.div_add_mod k (2 ^ p)
  intro q
  unfold zsu at q
  have q1 : k % 2 ^ p = 0 := by omega
  have q2 : k / 2 ^ p = 0 := by omega
  rw [q1, q2, Nat.mul_zero] at hd
  omega
/-- those below the next one are those below this one, and it -/
theorem zsu_below {p e k s : Nat} (hp : p ≤ 6) (hs : zss p e s) : s < zsu p (k + 1) ↔ s ≤ zsu p k := by
  have h1 := zpe hp
  obtain ⟨s1, s2⟩ := hs
  have m1 : k % 2 ^ p < 2 ^ p := Nat.mod_lt _ (by omega)
  have hd := Nat.div_add_mod k (2 ^ p)
  unfold zsu
  generalize hA : k % 2 ^ p = a at m1 hd
  generalize hB : k / 2 ^ p = b at hd
  by_cases g : a + 1 < 2 ^ p
  · obtain ⟨v1, v2⟩ := zqr (q := b) g
    have ek : k + 1 = b * 2 ^ p + (a + 1) := by rw [Nat.mul_comm]; omega
    rw [ek, v1, v2]
    omega
  · have ek : k + 1 = (b + 1) * 2 ^ p + 0 := by rw [Nat.add_mul, Nat.mul_comm b]; omega
    obtain ⟨v1, v2⟩ := zqr (q := b + 1) (r := 0) (d := 2 ^ p) (by omega)
    rw [ek, v1, v2]
    omega
theorem zsu_last {p e : Nat} (hp : p ≤ 6) : zsu p (2 ^ (p + e) - 1) = zall p e := by
  have h1 := zpe hp
  have h2 := Nat.two_pow_pos e
  have hpe : 2 ^ (p + e) = 2 ^ p * 2 ^ e := Nat.pow_add 2 p e
  obtain ⟨v1, v2⟩ := zqr (q := 2 ^ e - 1) (r := 2 ^ p - 1) (d := 2 ^ p) (by omega)
  have ek : 2 ^ (p + e) - 1 = (2 ^ e - 1) * 2 ^ p + (2 ^ p - 1) := by
    rw [hpe, Nat.sub_mul, Nat.mul_comm (2 ^ e), Nat.one_mul]
    have : 2 ^ p * 1 ≤ 2 ^ p * 2 ^ e := Nat.mul_le_mul_left _ h2
    omega
  rw [zsu, ek, v1, v2, zall_e]
theorem zsu_mono {p k : Nat} (hp : p ≤ 6) : zsu p k < zsu p (k + 1) := by
  have h1 := zpe hp
  have m1 : k % 2 ^ p < 2 ^ p := Nat.mod_lt _ (by omega)
  have hd := Nat.div_add_mod k (2 ^ p)
  unfold zsu
  generalize hA : k % 2 ^ p = a at m1 hd
  generalize hB : k / 2 ^ p = b at hd
  by_cases g : a + 1 < 2 ^ p
  · obtain ⟨v1, v2⟩ := zqr (q := b) g
    have ek : k + 1 = b * 2 ^ p + (a + 1) := by rw [Nat.mul_comm]; omega
    rw [ek, v1, v2]
    omega
  · have ek : k + 1 = (b + 1) * 2 ^ p + 0 := by rw [Nat.add_mul, Nat.mul_comm b]; omega
    obtain ⟨v1, v2⟩ := zqr (q := b + 1) (r := 0) (d := 2 ^ p) (by omega)
    rw [ek, v1, v2]
    omega
