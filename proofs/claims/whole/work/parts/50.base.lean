/-! numbers, loops: the words of the pure part -/
theorem zaI_n {M : zM} {n a k : Nat} (h : k < n) (hn : n < 2 ^ 31) : zaI M n a (nI k) = some (M.1 a k) := by
  rw [zaI, if_neg (nI_in h hn), nI_clamp (by omega)]
theorem zaJ_n {M : zM} {n a k : Nat} (h : k < n) (hn : n < 2 ^ 31) : zaJ M n a (nI k) = some (M.2 a k) := by
  rw [zaJ, if_neg (nI_in h hn), nI_clamp (by omega)]
theorem zpI_n {M : zM} {n a k : Nat} {v : Int32} (h : k < n) (hn : n < 2 ^ 31) : zpI M n a (nI k) v = some (zsi M a k v) := by
  rw [zpI, if_neg (nI_in h hn), nI_clamp (by omega)]
theorem zpJ_n {M : zM} {n a k : Nat} {v : Int64} (h : k < n) (hn : n < 2 ^ 31) : zpJ M n a (nI k) v = some (zsj M a k v) := by
  rw [zpJ, if_neg (nI_in h hn), nI_clamp (by omega)]
theorem zpZ_n {M : zM} {n a k : Nat} {v : Int32} (h : k < n) (hn : n < 2 ^ 31) : zpZ M n a (nI k) v = some (zsi M a k (vp_nar .boolean v)) := zpI_n h hn
theorem zl0 : (0 : Int32) = nI 0 := rfl
theorem zl1 : (1 : Int32) = nI 1 := rfl
theorem zl2 : (2 : Int32) = nI 2 := rfl
theorem zl3 : (3 : Int32) = nI 3 := rfl
theorem zl4 : (4 : Int32) = nI 4 := rfl
theorem zl5 : (5 : Int32) = nI 5 := rfl
theorem zl6 : (6 : Int32) = nI 6 := rfl
theorem zl7 : (7 : Int32) = nI 7 := rfl
theorem zl8 : (8 : Int32) = nI 8 := rfl
theorem zl9 : (9 : Int32) = nI 9 := rfl
theorem zl12 : (12 : Int32) = nI 12 := rfl
theorem nI_mul (a b : Nat) : nI a * nI b = nI (a * b) := pk_mul a b
theorem nI_div {a d : Nat} (ha : a < 2 ^ 31) (h0 : 0 < d) (hd : d < 2 ^ 31) : nI a / nI d = nI (a / d) := pk_div ha h0 hd
theorem nI_rem {a d : Nat} (ha : a < 2 ^ 31) (h0 : 0 < d) (hd : d < 2 ^ 31) : zrem (nI a) (nI d) = nI (a % d) := pk_rem ha h0 hd
theorem nI_sub {a b : Nat} (h : b ≤ a) : nI a - nI b = nI (a - b) := pk_sub h
theorem nI_bv (a : Nat) : (nI a).toBitVec = BitVec.ofNat 32 a := rfl
theorem nI_and (a b : Nat) : nI a &&& nI b = nI (a &&& b) := by
  apply Int32.toBitVec_inj.mp
  rw [Int32.toBitVec_and, nI_bv, nI_bv, nI_bv]
  apply BitVec.eq_of_toNat_eq
  simp [BitVec.toNat_ofNat, Nat.and_mod_two_pow]
theorem nI_or (a b : Nat) : nI a ||| nI b = nI (a ||| b) := by
  apply Int32.toBitVec_inj.mp
  rw [Int32.toBitVec_or, nI_bv, nI_bv, nI_bv]
  apply BitVec.eq_of_toNat_eq
  simp [BitVec.toNat_ofNat, Nat.or_mod_two_pow]
theorem nI_xor (a b : Nat) : nI a ^^^ nI b = nI (a ^^^ b) := by
  apply Int32.toBitVec_inj.mp
  rw [Int32.toBitVec_xor, nI_bv, nI_bv, nI_bv]
  apply BitVec.eq_of_toNat_eq
  simp [BitVec.toNat_ofNat, Nat.xor_mod_two_pow]
theorem zs_l : ∀ n, n < 32 → ((nI n &&& 31).toBitVec.smod 32).toNat = n := by decide +kernel
theorem zs_u : ∀ n, n < 32 → (((nI n).toUInt32 &&& Int32.toUInt32 31).toBitVec % 32).toNat = n := by decide +kernel
theorem nI_shl {a b : Nat} (hb : b < 32) (h : a * 2 ^ b < 2 ^ 32) : zshl (nI a) (nI b) = nI (a * 2 ^ b) := pk_shlN _ b (zs_l b hb) h
theorem nI_shr {a b : Nat} (ha : a < 2 ^ 31) (hb : b < 32) : zshr (nI a) (nI b) = nI (a / 2 ^ b) := pk_shrN ha _ b (zs_l b hb)
theorem nI_ushr {a b : Nat} (ha : a < 2 ^ 32) (hb : b < 32) : zushr (nI a) (nI b) = nI (a / 2 ^ b) := pk_ushrN ha _ b (zs_u b hb)
/-- a loop that counts k up to n, its state told by k -/
theorem zloop {α : Type} {F : Nat → Nat → Option α} {n : Nat} {r : Option α} (hs : ∀ f k, k < n → F (f + 1) k = F f (k + 1)) (he : ∀ f, F (f + 1) n = r) : ∀ (k f : Nat), k ≤ n → n - k < f → F f k = r := by
  intro k f hk hf
  obtain ⟨d, hd⟩ : ∃ d, n - k = d := ⟨_, rfl⟩
  induction d generalizing k f with
  | zero =>
    obtain ⟨f, rfl⟩ : ∃ g, f = g + 1 := ⟨f - 1, by omega⟩
    have : k = n := by omega
    subst this
    exact he f
  | succ d ih =>
    obtain ⟨f, rfl⟩ : ∃ g, f = g + 1 := ⟨f - 1, by omega⟩
    rw [hs f k (by omega)]
    exact ih (k + 1) f (by omega) (by omega) (by omega)
/-- the same from 0, with the fuel that the told functions have -/
theorem zloop0 {α : Type} {F : Nat → Nat → Option α} (n : Nat) {r : Option α} (hn : n < 4999) (hs : ∀ f k, k < n → F (f + 1) k = F f (k + 1)) (he : ∀ f, F (f + 1) n = r) : F zfuel 0 = r := zloop hs he 0 zfuel (Nat.zero_le _) (by unfold zfuel; omega)
theorem zloopk {α : Type} {F : Nat → Nat → Option α} (k n : Nat) {r : Option α} (hk : k ≤ n) (hn : n < 4999) (hs : ∀ f j, k ≤ j → j < n → F (f + 1) j = F f (j + 1)) (he : ∀ f, F (f + 1) n = r) : F zfuel k = r := by
  have := zloop (F := fun f j => F f (k + j)) (n := n - k) (r := r) (fun f j hj => hs f (k + j) (by omega) (by omega)) (fun f => by
    show F (f + 1) (k + (n - k)) = r
    rw [show k + (n - k) = n by omega]; exact he f) 0 zfuel (Nat.zero_le _) (by unfold zfuel; omega)
  simpa using this
/-- bits of words of six cells -/
def zwo (w k : Nat) : Nat := w % 2 ^ k + w / 2 ^ (k + 1) * 2 ^ k
def zwi (w k b : Nat) : Nat := w % 2 ^ k + b * 2 ^ k + w / 2 ^ k * 2 ^ (k + 1)
def zbc (w : Nat) : Nat := ((List.range 12).map fun i => w / 2 ^ i % 2).sum
def zchg (n w : Nat) : Nat := ((List.range (n - 1)).map fun i => if w / 2 ^ i % 2 = w / 2 ^ (i + 1) % 2 then 0 else 1).sum
theorem has_n : ∀ w, w < 64 → ∀ k, k < 6 → f9_has (nI w) (nI k) = some (nI (w / 2 ^ k % 2)) := by decide +kernel
theorem f9_without_n : ∀ w, w < 64 → ∀ k, k < 6 → f9_without (nI w) (nI k) = some (nI (zwo w k)) := by decide +kernel
theorem f8_without_n : ∀ w, w < 64 → ∀ k, k < 6 → f8_without (nI w) (nI k) = some (nI (zwo w k)) := by decide +kernel
theorem f9_with_n : ∀ w, w < 64 → ∀ k, k < 6 → ∀ b, b < 2 → f9_with (nI w) (nI k) (nI b) = some (nI (zwi w k b)) := by decide +kernel
theorem f8_with_n : ∀ w, w < 64 → ∀ k, k < 6 → ∀ b, b < 2 → f8_with (nI w) (nI k) (nI b) = some (nI (zwi w k b)) := by decide +kernel
theorem full_n : ∀ n, n < 13 → f9_full (nI n) = some (nI (2 ^ n - 1)) := by decide +kernel
theorem chg9_n : ∀ n, n < 7 → ∀ w, w < 64 → f9_changesOf (nI w) (nI n) = some (nI (zchg n w)) := by decide +kernel
theorem chg7_n : ∀ n, n < 7 → ∀ w, w < 64 → 0 < n → fJ6_bitCount ((nI w ^^^ zushr (nI w) (nI 1)) &&& zushr (nI (2 ^ n - 1)) (nI 1)) = some (nI (zchg n w)) := by decide +kernel
theorem bc_n0 : ∀ a, a < 64 → ∀ b, b < 64 → fJ6_bitCount (nI (64 * a + b)) = some (nI (zbc (64 * a + b))) := by decide +kernel
theorem bc_n {w : Nat} (h : w < 4096) : fJ6_bitCount (nI w) = some (nI (zbc w)) := by
  have := bc_n0 (w / 64) (by omega) (w % 64) (by omega)
  rwa [show 64 * (w / 64) + w % 64 = w by omega] at this
