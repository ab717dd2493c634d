/-! words -/
def zck (n k : Nat) : Nat := zsum (fun i => k / 2 ^ i % 2 * (i + 1)) n
theorem zck_c (n : Nat) (hn : n < 7) (k : Nat) (hk : k < 64) : f8_checkSum (nI k) (nI n) = some (nI (zck n k)) ∧ zck n k < 100 := by
  constructor
  · rw [f8_checkSum]
    refine zloop0 (F := fun f i => f8_checkSum_4 f (nI k) (nI n) (nI (zck i k)) (nI i)) n (by omega) (fun f i hi => ?_) (fun f => ?_)
    · show f8_checkSum_4 (f + 1) _ _ _ (nI i) = _
      rw [f8_checkSum_4, if_neg (nI_ge hi (by omega)), nI_ushr (by omega) (by omega), zl1, nI_and, Nat.and_one_is_mod, nI_add, nI_mul, nI_add]
      rfl
    · show f8_checkSum_4 (f + 1) _ _ _ (nI n) = _
      rw [f8_checkSum_4, if_pos (nI_le (Nat.le_refl _) (by omega))]
  · have := zsum_le (g := fun i => k / 2 ^ i % 2 * (i + 1)) (b := 7) (n := n) (fun i hi => by
      show k / 2 ^ i % 2 * (i + 1) ≤ 7
      rcases (show k / 2 ^ i % 2 = 0 ∨ k / 2 ^ i % 2 = 1 by omega) with q | q <;> rw [q] <;> omega)
    unfold zck
    omega
abbrev zW3 : Type := Nat × Nat × Nat
def zwst (n a k : Nat) (s : zW3) : zW3 := if zck n k % (n + 1) = a then (s.1 + 1, if s.1 = 0 then k else s.2.1, k) else s
def zwq (n a k : Nat) : zW3 := zfo (zwst n a) 0 (0, 0, 0) k
theorem zwq_s (n a k : Nat) : zwq n a (k + 1) = zwst n a k (zwq n a k) := by
  unfold zwq
  rw [zfo, Nat.zero_add]
theorem zwq_b (n a : Nat) : ∀ k, (zwq n a k).1 ≤ k ∧ (zwq n a k).2.1 ≤ k ∧ (zwq n a k).2.2 ≤ k := by
  intro k
  induction k with
  | zero => exact ⟨Nat.le_refl _, Nat.le_refl _, Nat.le_refl _⟩
  | succ k ih =>
    obtain ⟨i1, i2, i3⟩ := ih
    rw [zwq_s]
    unfold zwst
    split
    · refine ⟨?_, ?_, ?_⟩
      · show _ + 1 ≤ k + 1
        omega
      · show (if _ then _ else _) ≤ k + 1
        split <;> omega
      · show k ≤ k + 1
        omega
    · omega
def zwr (s : zW3) : List Int64 := if s.1 = 0 then [] else [(nI s.2.1).toInt64, (nI s.2.2).toInt64]
theorem zP_words_ok : zP_words zInv := by
  intro c M v1 v2 hc h
  have fin0 : zInv (c + 1) (zsi M 39 0 0) := zInv_to h (S := []) (s := [0]) (zOut.rf.si 39 0 0 (Or.inr ⟨rfl, by simp⟩)) (Or.inl rfl) (Or.inl rfl) (Or.inl rfl) (Or.inl rfl) (Or.inl rfl) (Or.inl rfl) (Or.inl rfl) (Or.inl rfl)
  have no : f8_words v1 v2 M = some (-1, M) → f9_words v1 v2 M = some (-1, zsi M 39 0 0) → ∃ (r : Int32) (M1 M2 : zM), f8_words v1 v2 M = some (r, M1) ∧ f9_words v1 v2 M1 = some (r, M2) ∧ zInv (c + 1) M2 := fun a b => ⟨_, _, _, a, b, fin0⟩
  have in16 : f9_in v1.toInt64 1 6 = some (if v1 < 1 then 0 else if 6 < v1 then 0 else 1) := in_i (lo := 1) (hi := 6) rfl rfl
  by_cases g1 : v1 < 1
  · refine no ?_ ?_
    · rw [f8_words, if_pos g1]
    · rw [f9_words, in16, if_pos g1]
      rfl
  by_cases g2 : 6 < v1
  · refine no ?_ ?_
    · rw [f8_words, if_neg g1, if_pos g2]
    · rw [f9_words, in16, if_neg g1, if_pos g2]
      rfl
  obtain ⟨n, hn0, hn, rfl⟩ : ∃ n : Nat, 1 ≤ n ∧ n < 7 ∧ v1 = nI n := by
    rcases pk_ix v1 (n := 7) (by omega) with hv | hv | ⟨n, hn, rfl⟩
    · exact absurd ((zix_neg hv 1 (by omega)).2.2.1) g1
    · exact absurd (((zix_big (by omega) hv).2 6 (by omega)).2.1) g2
    · refine ⟨n, ?_, hn, rfl⟩
      rcases Nat.lt_or_ge n 1 with q | q
      · exact absurd (nI_lt (b := 1) q (by omega)) g1
      · exact q
  have q16 : f9_in (nI n).toInt64 1 6 = some 1 := by rw [in16, if_neg g1, if_neg g2]
  rcases pk_ix v2 (n := n + 1) (by omega) with hv | hv | ⟨a, ha, rfl⟩
  · refine no ?_ ?_
    · rw [f8_words, if_neg g1, if_neg g2, if_pos hv]
    · rw [f9_words, q16, Option.bind_some, if_neg (by decide), in_neg (by omega) hv]
      rfl
  · have g := zix_big (by omega) hv
    refine no ?_ ?_
    · rw [f8_words, if_neg g1, if_neg g2, if_neg g.1, if_neg (g.2 n (by omega)).1]
    · rw [f9_words, q16, Option.bind_some, if_neg (by decide), in_big (by omega) hv]
      rfl
  have hp := zfull_lt (n := n) (by omega)
  have key8 : ∃ M1, f8_words (nI n) (nI a) M = some (nI (zwq n a (2 ^ n)).1, M1) ∧ zR8 M1 (zwr (zwq n a (2 ^ n))) := by
    rw [f8_words, if_neg g1, if_neg g2, if_neg (nI_pos (by omega)), if_pos (nI_le (by omega) (by omega))]
    refine zloopP (F := fun f k (x : Unit) => f8_words_33 f (nI n) (nI a) (nI (zwq n a k).1) (nI (zwq n a k).2.1) (nI (zwq n a k).2.2) (nI k) M) (I := fun _ _ => True) (P := fun o => ∃ M1, o = some (nI (zwq n a (2 ^ n)).1, M1) ∧ zR8 M1 (zwr (zwq n a (2 ^ n)))) (2 ^ n) (by omega) (k0 := 0) (by omega) (fun f k x _ hk _ => Or.inl ⟨(), ?_, trivial⟩) (fun f x _ => ?_) (x := ()) trivial
    · show f8_words_33 (f + 1) _ _ _ _ _ (nI k) M = _
      obtain ⟨c1, c2⟩ := zck_c n hn k (by omega)
      obtain ⟨b1, b2, b3⟩ := zwq_b n a k
      have em : zmod (nI (zck n k)) (nI n + 1) = some (nI (zck n k % (n + 1))) := by
        rw [nI_1, zmod, if_neg (nI_ne0 (by omega) (by omega)), nI_rem (by omega) (by omega) (by omega)]
      have hmd : zck n k % (n + 1) < n + 1 := Nat.mod_lt _ (by omega)
      rw [f8_words_33, z1shl (by omega), if_neg (nI_ge hk (by omega)), c1, Option.bind_some, em, Option.bind_some, zwq_s]
      unfold zwst
      by_cases g : zck n k % (n + 1) = a
      · rw [if_pos (by rw [g]), if_pos g, f8_words_75, nI_1, nI_1]
        by_cases h0 : (zwq n a k).1 = 0
        · rw [if_pos (by rw [h0]; rfl)]
          dsimp only
          rw [if_pos h0]
        · rw [if_neg (nI_ne0 (by omega) (by omega))]
          dsimp only
          rw [if_neg h0]
      · rw [if_neg (nI_ne g (by omega) (by omega)), if_neg g, f8_words_75, nI_1]
    · obtain ⟨b1, b2, b3⟩ := zwq_b n a (2 ^ n)
      have e : f8_words_33 (f + 1) (nI n) (nI a) (nI (zwq n a (2 ^ n)).1) (nI (zwq n a (2 ^ n)).2.1) (nI (zwq n a (2 ^ n)).2.2) (nI (2 ^ n)) M = (if nI (zwq n a (2 ^ n)).1 ≤ 0 then some (nI (zwq n a (2 ^ n)).1, zsi M 9 1 0) else (f3_tell_ (nI (zwq n a (2 ^ n)).2.1).toInt64 (nI (zwq n a (2 ^ n)).2.2).toInt64 (zsi M 9 1 0)).bind fun M2 => some (nI (zwq n a (2 ^ n)).1, M2)) := by
        rw [f8_words_33, z1shl (by omega), if_pos (nI_le (Nat.le_refl _) (by omega)), f3_clear, Option.bind_some]
      show ∃ M1, f8_words_33 (f + 1) (nI n) (nI a) (nI (zwq n a (2 ^ n)).1) (nI (zwq n a (2 ^ n)).2.1) (nI (zwq n a (2 ^ n)).2.2) (nI (2 ^ n)) M = _ ∧ _
      rw [e]
      unfold zwr
      by_cases h0 : (zwq n a (2 ^ n)).1 = 0
      · rw [if_pos (by rw [h0]; decide), if_pos h0]
        exact ⟨_, rfl, zR8_nil M⟩
      · obtain ⟨z, z1, z2⟩ := c_tell2 (nI (zwq n a (2 ^ n)).2.1).toInt64 (nI (zwq n a (2 ^ n)).2.2).toInt64 (zsi M 9 1 0)
        rw [if_neg (nI_nle (by omega) (by omega)), if_neg h0, z1]
        exact ⟨z, rfl, z2⟩
  obtain ⟨M1, h8, r8⟩ := key8
  have o8 := o_X8_words h8
  have key9 : ∃ M2, f9_words (nI n) (nI a) M1 = some (nI (zwq n a (2 ^ n)).1, M2) ∧ zR9 M2 (zwr (zwq n a (2 ^ n))) := by
    rw [f9_words, q16, Option.bind_some, if_neg (by decide), in_ok (by omega) (by omega), Option.bind_some, if_neg (by decide)]
    refine zloopP (F := fun f k (x : Unit) => f9_words_41 f (nI n) (nI a) (nI (zwq n a k).1) (if (zwq n a k).1 = 0 then -1 else nI (zwq n a k).2.1) (if (zwq n a k).1 = 0 then -1 else nI (zwq n a k).2.2) (nI k) (zsi M1 39 0 0)) (I := fun _ _ => True) (P := fun o => ∃ M2, o = some (nI (zwq n a (2 ^ n)).1, M2) ∧ zR9 M2 (zwr (zwq n a (2 ^ n)))) (2 ^ n) (by omega) (k0 := 0) (by omega) (fun f k x _ hk _ => Or.inl ⟨(), ?_, trivial⟩) (fun f x _ => ?_) (x := ()) trivial
    · show f9_words_41 (f + 1) _ _ _ _ _ (nI k) (zsi M1 39 0 0) = _
      obtain ⟨-, c2⟩ := zck_c n hn k (by omega)
      obtain ⟨b1, b2, b3⟩ := zwq_b n a k
      have em : zmod (nI (zck n k)) (nI n + 1) = some (nI (zck n k % (n + 1))) := by
        rw [nI_1, zmod, if_neg (nI_ne0 (by omega) (by omega)), nI_rem (by omega) (by omega) (by omega)]
      have hmd : zck n k % (n + 1) < n + 1 := Nat.mod_lt _ (by omega)
      have inner : ∀ (K : Int32 → Int32 → Int32 → Int32 → Int32 → Int32 → Int32 → zM → Option (Int32 × zM)) (v3 v4 v5 : Int32) (X : zM), f9_words_56 K zfuel (nI n) (nI a) v3 v4 v5 (nI k) 0 0 X = K (nI n) (nI a) v3 v4 v5 (nI k) (nI (zck n k)) X := by
        intro K v3 v4 v5 X
        refine zloop0 (F := fun f i => f9_words_56 K f (nI n) (nI a) v3 v4 v5 (nI k) (nI (zck i k)) (nI i) X) n (by omega) (fun f i hi => ?_) (fun f => ?_)
        · show f9_words_56 K (f + 1) _ _ _ _ _ _ _ (nI i) X = _
          rw [f9_words_56, if_neg (nI_ge hi (by omega)), has_n k (by omega) i (by omega), Option.bind_some]
          have e : (if nI (k / 2 ^ i % 2) = 0 then (0 : Int32) else nI i + 1) = nI (k / 2 ^ i % 2 * (i + 1)) := by
            rcases (show k / 2 ^ i % 2 = 0 ∨ k / 2 ^ i % 2 = 1 by omega) with q | q
            · rw [q, if_pos (show nI 0 = 0 from rfl), Nat.zero_mul]
              rfl
            · rw [q, if_neg (show ¬ nI 1 = 0 by decide), Nat.one_mul, nI_1]
          rw [e, nI_add, nI_1]
          rfl
        · show f9_words_56 K (f + 1) _ _ _ _ _ _ _ (nI n) X = _
          rw [f9_words_56, if_pos (nI_le (Nat.le_refl _) (by omega))]
      rw [f9_words_41, r_full (by omega), Option.bind_some, if_neg (nI_nlt (by omega) (by omega)), inner, f9_words_91, em, Option.bind_some, flag_if, Option.bind_some, zwq_s]
      unfold zwst
      by_cases g : zck n k % (n + 1) = a
      · rw [if_pos g]
        have gi : (if nI (zck n k % (n + 1)) = nI a then (1 : Int32) else 0) = 1 := if_pos (by rw [g])
        rw [gi, if_neg (show ¬ (1 : Int32) = 0 by decide), if_neg (show ¬ (1 : Int32) = 0 by decide), nI_1, nI_1]
        dsimp only
        rw [if_neg (show ¬ (zwq n a k).1 + 1 = 0 by omega), if_neg (show ¬ (zwq n a k).1 + 1 = 0 by omega)]
        by_cases h0 : (zwq n a k).1 = 0
        · rw [if_pos (by rw [h0]; rfl), if_pos h0]
        · rw [if_neg (nI_ne0 (by omega) (by omega)), if_neg h0, if_neg h0]
      · have gi : (if nI (zck n k % (n + 1)) = nI a then (1 : Int32) else 0) = 0 := if_neg (nI_ne g (by omega) (by omega))
        rw [if_neg g, gi, if_pos rfl, if_pos rfl, nI_1]
        show f9_words_41 f _ _ (nI _ + nI 0) _ _ _ _ = _
        rw [nI_add]
        rfl
    · obtain ⟨b1, b2, b3⟩ := zwq_b n a (2 ^ n)
      show ∃ M2, f9_words_41 (f + 1) (nI n) (nI a) (nI (zwq n a (2 ^ n)).1) (if (zwq n a (2 ^ n)).1 = 0 then -1 else nI (zwq n a (2 ^ n)).2.1) (if (zwq n a (2 ^ n)).1 = 0 then -1 else nI (zwq n a (2 ^ n)).2.2) (nI (2 ^ n)) (zsi M1 39 0 0) = _ ∧ _
      rw [f9_words_41, r_full (by omega), Option.bind_some, if_pos (nI_lt (by omega) (by omega))]
      unfold zwr
      by_cases h0 : (zwq n a (2 ^ n)).1 = 0
      · rw [if_pos (by rw [h0]; decide), if_pos h0]
        exact ⟨_, rfl, zR9_nil _⟩
      · obtain ⟨z0, z1, z2⟩ := r_tell (nI (zwq n a (2 ^ n)).2.1).toInt64 (zsi M1 39 0 0)
        obtain ⟨z, z3, z4⟩ := z2.add (by simp) (nI (zwq n a (2 ^ n)).2.2).toInt64
        rw [if_neg (nI_nle (by omega) (by omega)), if_neg h0, if_neg h0, if_neg h0, z1, Option.bind_some, z3]
        exact ⟨z, rfl, z4⟩
  obtain ⟨M2, h9, r9⟩ := key9
  exact ⟨_, _, _, h8, h9, zq h o8 (o_X9_words h9) r8 r9 rfl rfl⟩
