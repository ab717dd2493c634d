/-! a rule worked out by the reference -/
theorem zpk_plain (tr : Nat → Int32) : (zpk tr [1099, 1105, 1045] 3).2 0 = tr 1099 - tr 1105 := by
  have l1 : zlf 1099 := by unfold zlf; omega
  have l2 : zlf 1105 := by unfold zlf; omega
  have l3 : ¬ zlf 1045 := by unfold zlf; omega
  show (zst1 tr 1045 (zst1 tr 1105 (zst1 tr 1099 (0, fun _ => 0)))).2 0 = _
  have e1 : zst1 tr 1099 (0, fun _ => 0) = (1, upd (fun _ => 0) 0 (tr 1099)) := by rw [zst1, if_pos l1]
  have e2 : zst1 tr 1105 (1, upd (fun _ => 0) 0 (tr 1099)) = (2, upd (upd (fun _ => 0) 0 (tr 1099)) 1 (tr 1105)) := by rw [zst1, if_pos l2]
  rw [e1, e2, zst1, if_neg l3, if_neg (by decide)]
  show upd (upd (upd (fun _ => 0) 0 (tr 1099)) 1 (tr 1105)) 0 (zjn 1045 _ _) 0 = _
  rw [pk_us]
  rfl
theorem zcr_lf {c : Nat} (h : zlf c) (h1 : 1000 ≤ c) : 1000 ≤ zcr c ∧ zcr c < 1008 := by
  unfold zlf at h
  rcases h with h | rfl | rfl | rfl | rfl | rfl | rfl | rfl | rfl
  · omega
  all_goals decide
theorem zcr_op {c : Nat} (h : zop c) : 2000 ≤ zcr c ∧ zcr c < 2007 := by
  unfold zop at h
  rcases h with rfl | rfl | rfl | rfl | rfl | rfl | rfl
  all_goals decide
theorem zcr_num {c : Nat} (h : c < 1000) : zcr c = c := by unfold zcr; rw [if_pos h]
theorem r_ruled {M : zM} {t : List Nat} {tr : Nat → Int32} (ht : zCr M t) (h0 : ∀ c, c < 1000 → tr c = nI c) (h1 : ∀ c, zlf c → 1000 ≤ c → M.1 48 (zcr c - 1000) = tr c) : ∃ M', f9_ruled M = some ((zpk tr t t.length).2 0, M') ∧ ∀ q, q ≠ 47 → M'.1 q = M.1 q := by
  obtain ⟨t1, t4, t2⟩ := ht
  rw [f9_ruled]
  rcases t2 with ⟨t2, t3⟩ | ⟨t2, rfl⟩
  · refine zloopP (F := fun f n x => f9_ruled_4 f (nI (zpk tr t n).1) (nI n) x) (I := fun n x => (∀ q, q ≠ 47 → x.1 q = M.1 q) ∧ ∀ j, j < (zpk tr t n).1 → x.1 47 j = (zpk tr t n).2 j) (P := fun o => ∃ M', o = some ((zpk tr t t.length).2 0, M') ∧ ∀ q, q ≠ 47 → M'.1 q = M.1 q) t.length (by omega) (k0 := 0) (by omega) (fun f n x _ hn hx => Or.inl ?_) (fun f x hx => ?_) ⟨fun q hq => rfl, fun j hj => absurd hj (Nat.not_lt_zero _)⟩
    · obtain ⟨x1, x2⟩ := hx
      obtain ⟨c, hcc⟩ : ∃ c, t[n]? = some c := ⟨_, List.getElem?_eq_getElem hn⟩
      obtain ⟨s1, s2, s3⟩ := zpk_step (tr := tr) t4 hcc
      have e1 : x.1 39 14 = nI t.length := by rw [x1 39 (by omega), t2]
      have e2 : x.1 45 n = nI (zcr c) := by rw [x1 45 (by omega), t3 n c hcc]
      generalize hs : zpk tr t n = s at s1 s2 s3 x2
      obtain ⟨hh, g⟩ := s
      simp only at s2 s3 x2
      have open6 : ∀ (X : zM) (v4 : Int32), f9_ruled_119 (f9_ruled_4 f) v4 (nI n) X = f9_ruled_4 f v4 (nI (n + 1)) X := by
        intro X v4
        rw [f9_ruled_119, nI_1]
      rcases s2 with ⟨hl, -⟩ | ⟨ho, h2⟩ | ⟨rfl, h1'⟩
      · have es : zst1 tr c (hh, g) = (hh + 1, upd g hh (tr c)) := by rw [zst1, if_pos hl]
        refine ⟨zsi x 47 hh (tr c), ?_, fun q hq => ?_, fun j hj => ?_⟩
        · show f9_ruled_4 (f + 1) _ (nI n) x = f9_ruled_4 f (nI (zpk _ t (n + 1)).1) _ _
          have fin : ∀ v, v = tr c → f9_ruled_115 (f9_ruled_4 f) (nI hh) (nI n) (nI hh) v x = f9_ruled_4 f (nI (hh + 1)) (nI (n + 1)) (zsi x 47 hh (tr c)) := by
            rintro v rfl
            rw [f9_ruled_115, zpI_n (by omega) (by omega), Option.bind_some, open6, nI_1]
          rw [s1, es, f9_ruled_4, e1, if_neg (nI_ge hn (by omega)), zaI_n (by omega) (by omega), e2, Option.bind_some]
          by_cases hc1 : c < 1000
          · rw [zcr_num hc1, if_neg (show ¬ nI c = 3000 from nI_ne (b := 3000) (by omega) (by omega) (by omega)), if_pos (show nI c < 2000 from nI_lt (b := 2000) (by omega) (by omega)), if_pos (show nI c < 1000 from nI_lt (b := 1000) (by omega) (by omega))]
            exact fin _ (h0 c hc1).symm
          · have hz := zcr_lf hl (by omega)
            rw [if_neg (show ¬ nI (zcr c) = 3000 from nI_ne (b := 3000) (by omega) (by omega) (by omega)), if_pos (show nI (zcr c) < 2000 from nI_lt (b := 2000) (by omega) (by omega)), if_neg (show ¬ nI (zcr c) < 1000 from nI_nlt (b := 1000) (by omega) (by omega)), show (1000 : Int32) = nI 1000 from rfl, nI_sub (by omega), zaI_n (by omega) (by omega), x1 48 (by omega), h1 c hl (by omega), Option.bind_some]
            exact fin _ rfl
        · funext j
          rw [zsi1, if_neg (fun q2 => hq q2.1), x1 q hq]
        · rw [s1, es] at hj ⊢
          simp only at hj ⊢
          rw [zsi1]
          by_cases hjh : j = hh
          · rw [if_pos ⟨rfl, hjh⟩, hjh, pk_us]
          · rw [if_neg (fun q2 => hjh q2.2), pk_un hjh]
            exact x2 j (by omega)
      · have hz := zcr_op ho
        have es : zst1 tr c (hh, g) = (hh - 1, upd g (hh - 2) (zjn c (g (hh - 2)) (g (hh - 1)))) := by rw [zst1, if_neg (zop_nlf ho).1, if_neg (zop_nlf ho).2]
        refine ⟨zsi x 47 (hh - 2) (zjn c (g (hh - 2)) (g (hh - 1))), ?_, fun q hq => ?_, fun j hj => ?_⟩
        · show f9_ruled_4 (f + 1) _ (nI n) x = f9_ruled_4 f (nI (zpk _ t (n + 1)).1) _ _
          rw [s1, es, f9_ruled_4, e1, if_neg (nI_ge hn (by omega)), zaI_n (by omega) (by omega), e2, Option.bind_some, if_neg (show ¬ nI (zcr c) = 3000 from nI_ne (b := 3000) (by omega) (by omega) (by omega)), if_neg (show ¬ nI (zcr c) < 2000 from nI_nlt (b := 2000) (by omega) (by omega)), nI_dec (by omega), zl1, nI_sub (by omega), zaI_n (by omega) (by omega), x2 _ (by omega), Option.bind_some, zaI_n (by omega) (by omega), x2 _ (by omega), Option.bind_some, show hh - 1 - 1 = hh - 2 by omega, worked_n ho, Option.bind_some, zpI_n (by omega) (by omega), Option.bind_some, open6]
        · funext j
          rw [zsi1, if_neg (fun q2 => hq q2.1), x1 q hq]
        · rw [s1, es] at hj ⊢
          simp only at hj ⊢
          rw [zsi1]
          by_cases hjh : j = hh - 2
          · rw [if_pos ⟨rfl, hjh⟩, hjh, pk_us]
          · rw [if_neg (fun q2 => hjh q2.2), pk_un hjh]
            exact x2 j (by omega)
      · have es : zst1 tr 1256 (hh, g) = (hh, upd g (hh - 1) (-(g (hh - 1)))) := by rw [zst1, if_neg (by unfold zlf; omega), if_pos rfl]
        refine ⟨zsi x 47 (hh - 1) (-(g (hh - 1))), ?_, fun q hq => ?_, fun j hj => ?_⟩
        · show f9_ruled_4 (f + 1) _ (nI n) x = f9_ruled_4 f (nI (zpk _ t (n + 1)).1) _ _
          rw [s1, es, f9_ruled_4, e1, if_neg (nI_ge hn (by omega)), zaI_n (by omega) (by omega), e2, Option.bind_some, if_pos (show nI (zcr 1256) = 3000 from rfl), zl1, nI_sub (by omega), zaI_n (by omega) (by omega), x2 _ (by omega), Option.bind_some, zpI_n (by omega) (by omega), Option.bind_some, open6]
        · funext j
          rw [zsi1, if_neg (fun q2 => hq q2.1), x1 q hq]
        · rw [s1, es] at hj ⊢
          simp only at hj ⊢
          rw [zsi1]
          by_cases hjh : j = hh - 1
          · rw [if_pos ⟨rfl, hjh⟩, hjh, pk_us]
          · rw [if_neg (fun q2 => hjh q2.2), pk_un hjh]
            exact x2 j (by omega)
    · obtain ⟨x1, x2⟩ := hx
      refine ⟨x, ?_, x1⟩
      show f9_ruled_4 (f + 1) _ (nI t.length) x = _
      have hl : t.length ≠ 0 := by
        intro q
        have : t = [] := List.length_eq_zero_iff.mp q
        rw [this] at t4
        simp [zcsl] at t4
      rw [f9_ruled_4, x1 39 (by omega), t2, if_pos (nI_le (Nat.le_refl _) (by omega)), if_neg (nI_ne0 (by omega) (by omega)), x2 0 (by rw [zpk_end t4]; omega)]
  · refine ⟨M, ?_, fun _ _ => rfl⟩
    show f9_ruled_4 (4999 + 1) 0 0 M = some ((zpk tr [1099, 1105, 1045] 3).2 0, M)
    have a3 : M.1 48 3 = tr 1099 := h1 1099 (by unfold zlf; omega) (by omega)
    have a1 : M.1 48 1 = tr 1105 := h1 1105 (by unfold zlf; omega) (by omega)
    rw [f9_ruled_4, t2, if_pos (by decide), if_pos rfl, zpk_plain, a3, a1]
theorem r_pull {M : zM} {a p e : Nat} {w : Nat → Nat} {t : List Nat} (ht : zCr M t) (hR : zRr M a p e w) (hc : zCl p e w) (ha : a < 44) {kd i : Nat} (hk : kd < 2) (hi : i < zmany p e kd) (ha2 : a ≠ 39) : ∃ M', f9_pull a (nI kd) (nI i) M = some (zpull p e w (M.1 a 8) t kd i, M') ∧ ∀ q, q ≠ 47 → q ≠ 48 → M'.1 q = M.1 q := by
  have hm := zmany_le hc kd
  have hb := zth_lt64 hc kd i
  have hsi : ∀ (X : zM) j v, zRr X a p e w → zRr (zsi X 48 j v) a p e w := fun X j v h => zRr_si h (by omega)
  have hR3 := hsi _ 2 (nI (zbc (zth p e w kd i))) (hsi _ 1 (nI i) (hsi _ 0 (nI kd) hR))
  have hR4 := hsi _ 3 (nI (zchg (zmany p e (1 - kd)) (zth p e w kd i))) hR3
  have hR5 := hsi _ 4 (nI (zmany p e (1 - kd))) hR4
  rw [f9_pull, r_bits hR hc hk hi, Option.bind_some, bc_n (by omega), Option.bind_some, r_cells hR3 hk, Option.bind_some, r_changes (M := M) (a := a) hc, Option.bind_some, r_cells hR4 hk, Option.bind_some]
  generalize hX : zsi (zsi (zsi (zsi (zsi M 48 0 (nI kd)) 48 1 (nI i)) 48 2 (nI (zbc (zth p e w kd i)))) 48 3 (nI (zchg (zmany p e (1 - kd)) (zth p e w kd i)))) 48 4 (nI (zmany p e (1 - kd))) = X at hR5
  have x0 : X.1 48 0 = nI kd := by rw [← hX]; simp [zsi1]
  have x1 : X.1 48 1 = nI i := by rw [← hX]; simp [zsi1]
  have x2 : X.1 48 2 = nI (zbc (zth p e w kd i)) := by rw [← hX]; simp [zsi1]
  have x3 : X.1 48 3 = nI (zchg (zmany p e (1 - kd)) (zth p e w kd i)) := by rw [← hX]; simp [zsi1]
  have x4 : X.1 48 4 = nI (zmany p e (1 - kd)) := by rw [← hX]; simp [zsi1]
  have xo : ∀ q, q ≠ 48 → X.1 q = M.1 q := by
    intro q hq
    rw [← hX]
    funext j
    simp [zsi1, hq]
  have fin : ∃ M', f9_pull_85 a (nI kd) (nI i) 5 (if i = 0 ∨ i = zmany p e kd - 1 then (1 : Int32) else 0) X = some (zpull p e w (M.1 a 8) t kd i, M') ∧ ∀ q, q ≠ 47 → q ≠ 48 → M'.1 q = M.1 q := by
    rw [f9_pull_85, flag_if, Option.bind_some, show (5 : Int32) = nI 5 from rfl, zpI_n (by omega) (by omega), Option.bind_some, r_likes (hsi _ _ _ hR5) hc hk hi, Option.bind_some]
    have e8 : (zsi (zsi X 48 5 (if i = 0 ∨ i = zmany p e kd - 1 then (1 : Int32) else 0)) 48 6 (nI (zlk p e w kd i))).1 a 8 = M.1 a 8 := by
      rw [zsi1, if_neg (by omega), zsi1, if_neg (by omega), xo a (by omega)]
    rw [e8]
    have yo : ∀ q, q ≠ 48 → (zsi (zsi (zsi X 48 5 (if i = 0 ∨ i = zmany p e kd - 1 then (1 : Int32) else 0)) 48 6 (nI (zlk p e w kd i))) 48 7 (zrem (M.1 a 8) 7)).1 q = M.1 q := by
      intro q hq
      rw [← xo q hq]
      funext j
      simp [zsi1, hq]
    have ht' : zCr (zsi (zsi (zsi X 48 5 (if i = 0 ∨ i = zmany p e kd - 1 then (1 : Int32) else 0)) 48 6 (nI (zlk p e w kd i))) 48 7 (zrem (M.1 a 8) 7)) t := by
      simp only [zCr, yo 39 (by omega), yo 45 (by omega)]
      exact ht
    obtain ⟨M', k1, k2⟩ := r_ruled (tr := ztr p e w (M.1 a 8) kd i) ht' (fun c h => by rw [ztr, if_pos h]) (fun c hl h1 => by
      have hl' : c = 1107 ∨ c = 1105 ∨ c = 1111 ∨ c = 1099 ∨ c = 1108 ∨ c = 1101 ∨ c = 1115 ∨ c = 1110 := by
        unfold zlf at hl
        omega
      simp only [zsi1]
      rcases hl' with rfl | rfl | rfl | rfl | rfl | rfl | rfl | rfl
      · simp [zcr, ztr, x0]
      · simp [zcr, ztr, x1]
      · simp [zcr, ztr, x2]
      · simp [zcr, ztr, x3]
      · simp [zcr, ztr, x4]
      · simp [zcr, ztr]
      · simp [zcr, ztr]
      · simp [zcr, ztr])
    refine ⟨M', ?_, fun q h47 h48 => by rw [k2 q h47, yo q h48]⟩
    rw [k1]
    rfl
  by_cases g : i = 0
  · rw [if_pos (by rw [g]; rfl)]
    rw [if_pos (Or.inl g)] at fin
    exact fin
  · rw [if_neg (nI_ne0 (by omega) (by omega)), r_many hR5 hk, Option.bind_some, zl1, nI_sub (by omega)]
    by_cases g2 : i = zmany p e kd - 1
    · rw [if_pos (by rw [← g2])]
      rw [if_pos (Or.inr g2)] at fin
      exact fin
    · rw [if_neg (nI_ne g2 (by omega) (by omega))]
      rw [if_neg (by omega)] at fin
      exact fin
