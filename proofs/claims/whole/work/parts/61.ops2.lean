/-! the class: a thread in, a cell turned, the other order -/
section CU
variable {M : zM} {k p e : Nat} {w : Nat → Nat}
theorem zbit1 (v j : Nat) : (v / 2 ^ j &&& 1) ^^^ 1 = 1 - v / 2 ^ j % 2 := by
  rw [Nat.and_one_is_mod]
  rcases (show v / 2 ^ j % 2 = 0 ∨ v / 2 ^ j % 2 = 1 by omega) with q | q <;> rw [q] <;> rfl
theorem c_weave (h : zWc M k p e w) (hc : zCl p e w) {kd i v : Nat} (hk : kd < 2) (hi : i ≤ zmany p e kd) (hm : zmany p e kd < 6) (hv : v < 2 ^ zmany p e (1 - kd)) : ∃ M', f7_weaveIn k (nI kd) (nI i) (nI v) M = some (nI (zmany p e kd + 1), M') ∧ zWc M' k (zuP p kd) (zuE e kd) (zuW p w kd i v) ∧ M'.1 k 2 = M.1 k 2 := by
  have hc' := zCl_u hc hk hi hm hv
  have hv64 : v < 64 := by
    have := (zfull_lt (zmany_le hc (1 - kd)).2).1
    omega
  have hm1 := (zmany_le hc (1 - kd)).2
  have hpw := (zfull_lt hm1).1
  obtain ⟨c1, c2, c3, c4, c5, c6⟩ := id hc
  obtain ⟨w0, w1, w2, w3⟩ := id h
  have e9 : f7_weaveIn k (nI kd) (nI i) (nI v) M = f7_weaveIn_9 k (nI kd) (nI i) (nI v) M := by
    rw [f7_weaveIn]
    rcases (show kd = 0 ∨ kd = 1 by omega) with rfl | rfl
    · rfl
    · rfl
  rw [e9, f7_weaveIn_9, if_neg (nI_pos (by omega)), c_size h hk, Option.bind_some, if_pos (nI_le hi (by omega)), if_neg (nI_pos (by omega)), c_full h hc hk, Option.bind_some, if_pos (nI_le (by omega) (by omega)), Option.bind_some, zl6, if_pos (nI_lt hm (by omega))]
  rcases (show kd = 0 ∨ kd = 1 by omega) with rfl | rfl
  · have hi : i ≤ p := hi
    have hm : p < 6 := hm
    rw [if_pos (show nI 0 = 0 from rfl), w0]
    refine zloopP (F := fun f j x => f7_weaveIn_62 k f (nI 0) (nI i) (nI v) (nI (p - j)) x) (I := fun j x => x.1 k 0 = nI p ∧ x.1 k 1 = nI e ∧ x.1 k 2 = M.1 k 2 ∧ ∀ t, t < 6 → x.1 (k + 1) t = nI (if p - j < t ∧ t ≤ p then w (t - 1) else w t)) (P := fun o => ∃ M', o = some (nI (zmany p e 0 + 1), M') ∧ zWc M' k (zuP p 0) (zuE e 0) (zuW p w 0 i v) ∧ M'.1 k 2 = M.1 k 2) (p - i) (by omega) (k0 := 0) (by omega) (fun f j x hj0 hj hx => Or.inl ?_) (fun f x hx => ?_) ⟨w0, w1, rfl, fun t ht => by rw [w2 t ht, if_neg (by omega)]⟩
    · obtain ⟨x1, x2, x3, x4⟩ := hx
      have q := x4 (p - j - 1) (by omega)
      rw [if_neg (by omega), Nat.sub_sub] at q
      refine ⟨zsi x (k + 1) (p - j) (nI (w (p - j - 1))), ?_, by simp [zsi1, x1], by simp [zsi1, x2], by simp [zsi1, x3], fun t ht => ?_⟩
      · show f7_weaveIn_62 k (f + 1) _ (nI i) _ (nI (p - j)) x = _
        rw [f7_weaveIn_62, nI_dec (by omega)]
        simp (disch := omega) only [zl0, zl1, zl2, zl3, zl4, zl5, zl6, zl7, zl8, zl9, zl10, zl11, zl12, nI_add, nI_sub, nI_mul, zaI_n, zaJ_n, zpI_n, zpJ_n, Option.bind_some, nI_le, nI_ge, nI_lt, nI_nlt, nI_ne, ↓reduceIte, if_true, if_false, q, Nat.sub_sub]
      · rw [zsi1]
        by_cases htj : t = p - j
        · subst htj
          rw [if_pos ⟨rfl, rfl⟩, if_pos (by omega)]
        · rw [if_neg (by omega), x4 t ht]
          congr 1
          by_cases g : p - j < t ∧ t ≤ p
          · rw [if_pos g, if_pos (by omega)]
          · rw [if_neg g, if_neg (by omega)]
    · obtain ⟨x1, x2, x3, x4⟩ := hx
      rw [show p - (p - i) = i by omega] at x4
      obtain ⟨M', y1, y2, y3⟩ := c_settle (M := zsi (zsi x (k + 1) i (nI v)) k 0 (nI (p + 1))) (k := k) (p := zuP p 0) (e := zuE e 0) (w := zuW p w 0 i v) (by simp [zsi1, zuP]) (by simp [zsi1, x2, zuE]) (fun t ht => by
        rw [zsi1, if_neg (by omega), zsi1]
        show _ = nI (if t < i then w t else if t = i then v else w (t - 1))
        by_cases htj : t = i
        · rw [if_pos ⟨rfl, htj⟩, if_neg (by omega), if_pos htj]
        · rw [if_neg (by omega), x4 t ht]
          congr 1
          by_cases g : t < i
          · rw [if_pos g, if_neg (by omega)]
          · rw [if_neg g, if_neg htj]
            by_cases g2 : t ≤ p
            · rw [if_pos (by omega)]
            · rw [if_neg (by omega), c6 _ (by omega), c6 _ (by omega)]) hc'
      refine ⟨M', ?_, y2, ?_⟩
      · show f7_weaveIn_62 k (f + 1) _ (nI i) _ (nI (p - (p - i))) x = _
        rw [show p - (p - i) = i by omega, f7_weaveIn_62]
        simp (disch := omega) only [zl0, zl1, zl2, zl3, zl4, zl5, zl6, zl7, zl8, zl9, zl10, zl11, zl12, nI_add, nI_sub, nI_mul, zaI_n, zaJ_n, zpI_n, zpJ_n, Option.bind_some, nI_le, nI_ge, nI_lt, nI_nlt, nI_ne, ↓reduceIte, if_true, if_false]
        have q : (zsi x (k + 1) i (nI v)).1 k 0 = nI p := by simp [zsi1, x1]
        rw [q, nI_add, f7_weaveIn_164, y1, Option.bind_some, c_size y2 (by omega)]
        rfl
      · rw [y3]
        simp [zsi1, x3]
  · have hi : i ≤ e := hi
    have hm : e < 6 := hm
    rw [if_neg (by decide)]
    refine zloopP (F := fun f j x => f7_weaveIn_113 k f (nI 1) (nI i) (nI v) (nI j) x) (I := fun j x => x.1 k 0 = nI p ∧ x.1 k 1 = nI e ∧ x.1 k 2 = M.1 k 2 ∧ ∀ t, t < 6 → x.1 (k + 1) t = nI (if t < j then zwi (w t) i (1 - v / 2 ^ t % 2) else w t)) (P := fun o => ∃ M', o = some (nI (zmany p e 1 + 1), M') ∧ zWc M' k (zuP p 1) (zuE e 1) (zuW p w 1 i v) ∧ M'.1 k 2 = M.1 k 2) p (by omega) (k0 := 0) (by omega) (fun f j x _ hj hx => Or.inl ?_) (fun f x hx => ?_) ⟨w0, w1, rfl, fun t ht => by simp [w2 t ht]⟩
    · obtain ⟨x1, x2, x3, x4⟩ := hx
      have q := x4 j (by omega)
      rw [if_neg (by omega)] at q
      refine ⟨zsi x (k + 1) j (nI (zwi (w j) i (1 - v / 2 ^ j % 2))), ?_, by simp [zsi1, x1], by simp [zsi1, x2], by simp [zsi1, x3], fun t ht => ?_⟩
      · show f7_weaveIn_113 k (f + 1) _ _ _ (nI j) x = _
        rw [f7_weaveIn_113]
        simp (disch := omega) only [zl0, zl1, zl2, zl3, zl4, zl5, zl6, zl7, zl8, zl9, zl10, zl11, zl12, nI_add, nI_sub, nI_mul, zaI_n, zaJ_n, zpI_n, zpJ_n, Option.bind_some, nI_le, nI_ge, nI_lt, nI_nlt, nI_ne, ↓reduceIte, if_true, if_false, x1, q, nI_ushr, nI_and, nI_xor, zbit1]
        rw [f8_with_n _ (hc.lt64 j) i (by omega) _ (by omega), Option.bind_some]
      · rw [zsi1]
        by_cases htj : t = j
        · subst htj
          rw [if_pos ⟨rfl, rfl⟩, if_pos (by omega)]
        · rw [if_neg (by omega), x4 t ht]
          congr 1
          by_cases g : t < j
          · rw [if_pos g, if_pos (by omega)]
          · rw [if_neg g, if_neg (by omega)]
    · obtain ⟨x1, x2, x3, x4⟩ := hx
      obtain ⟨M', y1, y2, y3⟩ := c_settle (M := zsi x k 1 (nI (e + 1))) (k := k) (p := zuP p 1) (e := zuE e 1) (w := zuW p w 1 i v) (by simp [zsi1, x1, zuP]) (by simp [zsi1, zuE]) (fun t ht => by
        rw [zsi1, if_neg (by omega), x4 t ht]
        show _ = nI (if t < p then zwi (w t) i (1 - v / 2 ^ t % 2) else 0)
        congr 1
        by_cases g : t < p
        · rw [if_pos g, if_pos g]
        · rw [if_neg g, if_neg g, c6 t (by omega)]) hc'
      refine ⟨M', ?_, y2, ?_⟩
      · show f7_weaveIn_113 k (f + 1) _ _ _ (nI p) x = _
        rw [f7_weaveIn_113]
        simp (disch := omega) only [zl0, zl1, zl2, zl3, zl4, zl5, zl6, zl7, zl8, zl9, zl10, zl11, zl12, nI_add, nI_sub, nI_mul, zaI_n, zaJ_n, zpI_n, zpJ_n, Option.bind_some, nI_le, nI_ge, nI_lt, nI_nlt, nI_ne, ↓reduceIte, if_true, if_false, x1, x2]
        rw [f7_weaveIn_164, y1, Option.bind_some, c_size y2 (by omega)]
        rfl
      · rw [y3]
        simp [zsi1, x3]
theorem c_flip (h : zWc M k p e w) (hc : zCl p e w) {a b : Nat} (ha : a < p) (hb : b < e) : ∃ M', f7_turnCell k (nI a) (nI b) M = some (nI (zovs p (zfW w a b)), M') ∧ zWc M' k p e (zfW w a b) ∧ M'.1 k 2 = M.1 k 2 := by
  have hc' := zCl_f hc ha hb
  obtain ⟨c1, c2, c3, c4, c5, c6⟩ := id hc
  obtain ⟨w0, w1, w2, w3⟩ := id h
  have hz := zpw6 (n := b) (by omega)
  obtain ⟨M', y1, y2, y3⟩ := c_settle (M := zsi M (k + 1) a (nI (w a ^^^ 2 ^ b))) (k := k) (p := p) (e := e) (w := zfW w a b) (by simp [zsi1, w0]) (by simp [zsi1, w1]) (fun t ht => by
    rw [zsi1, zfW]
    by_cases g : t = a
    · rw [if_pos ⟨rfl, g⟩, if_pos g]
    · rw [if_neg (by omega), if_neg g, w2 t ht]) hc'
  refine ⟨M', ?_, y2, ?_⟩
  · rw [f7_turnCell, c_cross_yes h hc ha hb, Option.bind_some, if_neg (by decide), zaI_n (by omega) (by omega), w2 a (by omega), Option.bind_some, zl1, nI_shl (by omega) (by omega), nI_xor, zpI_n (by omega) (by omega), Option.bind_some, Nat.one_mul, y1, Option.bind_some, c_overs y2 hc']
    rfl
  · rw [y3]
    simp [zsi1]
theorem c_trd (h1 : M.1 k 1 = nI e) (he : e ≤ 6) {v : Nat} (hv : v < 64) : f7_turnedRound k (nI v) M = some (nI (zrev v e)) := by
  rw [f7_turnedRound]
  refine zloop0 (F := fun f n => f7_turnedRound_4 k f (nI v) (nI (zrev v n)) (nI n) M) e (by omega) (fun f n hn => ?_) (fun f => ?_)
  · show f7_turnedRound_4 k (f + 1) _ _ _ M = _
    have hr := zrev_lt v n
    have hz := zpw6 (n := n) (by omega)
    have hb : v / 2 ^ n % 2 < 2 ^ 1 := by omega
    rw [f7_turnedRound_4, h1]
    simp (disch := omega) only [zl0, zl1, zl2, zl3, zl4, zl5, zl6, zl7, zl8, zl9, zl10, zl11, zl12, nI_add, nI_sub, nI_mul, zaI_n, zaJ_n, zpI_n, zpJ_n, Option.bind_some, nI_le, nI_ge, nI_lt, nI_nlt, nI_ne, ↓reduceIte, if_true, if_false, nI_ushr, nI_shl, nI_and, Nat.and_one_is_mod, nI_or]
    rw [Nat.or_comm, zor_disj hb, zrev]
    congr 2
    omega
  · show f7_turnedRound_4 k (f + 1) _ _ _ M = _
    rw [f7_turnedRound_4, h1]
    simp (disch := omega) only [zl0, zl1, zl2, zl3, zl4, zl5, zl6, zl7, zl8, zl9, zl10, zl11, zl12, nI_add, nI_sub, nI_mul, zaI_n, zaJ_n, zpI_n, zpJ_n, Option.bind_some, nI_le, nI_ge, nI_lt, nI_nlt, nI_ne, ↓reduceIte, if_true, if_false]
/-- at how many places a thread that looks otherwise stands then -/
def zmir (p e : Nat) (w : Nat → Nat) (kd : Nat) : Nat := zsum (fun i => if zth p e w kd i = zth p e w kd (zmany p e kd - 1 - i) then 0 else 1) (zmany p e kd)
theorem c_mirror (h : zWc M k p e w) (hc : zCl p e w) {kd : Nat} (hk : kd < 2) : ∃ M', f7_turnRound k (nI kd) M = some (nI (zmir p e w kd), M') ∧ zWc M' k p e (zmW p e w kd) ∧ M'.1 k 2 = M.1 k 2 := by
  have hc' := zCl_m hc hk
  have hm := (zmany_le hc kd).2
  obtain ⟨c1, c2, c3, c4, c5, c6⟩ := id hc
  obtain ⟨w0, w1, w2, w3⟩ := id h
  have e11 : f7_turnRound k (nI kd) M = f7_turnRound_11 k (nI kd) M := by
    rw [f7_turnRound]
    rcases (show kd = 0 ∨ kd = 1 by omega) with rfl | rfl
    · rfl
    · rfl
  rw [e11, f7_turnRound_11, c_size h hk, Option.bind_some]
  have e22 : f7_turnRound_22 k zfuel (nI kd) (nI (zmany p e kd)) 0 0 M = if nI kd = 0 then f7_turnRound_70 k zfuel (nI (zmany p e kd)) (nI (zmir p e w kd)) 0 M else f7_turnRound_130 k zfuel (nI (zmir p e w kd)) 0 M := by
    refine zloop0 (F := fun f n => f7_turnRound_22 k f (nI kd) (nI (zmany p e kd)) (nI (zsum (fun i => if zth p e w kd i = zth p e w kd (zmany p e kd - 1 - i) then 0 else 1) n)) (nI n) M) (zmany p e kd) (by omega) (fun f n hn => ?_) (fun f => ?_)
    · show f7_turnRound_22 k (f + 1) _ _ _ _ M = _
      have b1 := zth_lt64 hc kd n
      have b2 := zth_lt64 hc kd (zmany p e kd - 1 - n)
      rw [f7_turnRound_22]
      simp (disch := omega) only [zl0, zl1, zl2, zl3, zl4, zl5, zl6, zl7, zl8, zl9, zl10, zl11, zl12, nI_add, nI_sub, nI_mul, zaI_n, zaJ_n, zpI_n, zpJ_n, Option.bind_some, nI_le, nI_ge, nI_lt, nI_nlt, nI_ne, ↓reduceIte, if_true, if_false, c_cells h hk]
      rw [zsum]
      by_cases g : zth p e w kd n = zth p e w kd (zmany p e kd - 1 - n)
      · rw [if_pos g, if_pos (by rw [g]), nI_add]
      · rw [if_neg g, if_neg (nI_ne g (by omega) (by omega)), nI_add]
    · show f7_turnRound_22 k (f + 1) _ _ _ _ M = _
      rw [f7_turnRound_22, if_pos (nI_le (Nat.le_refl _) (by omega))]
      rfl
  rw [e22]
  rcases (show kd = 0 ∨ kd = 1 by omega) with rfl | rfl
  · rw [if_pos (show nI 0 = 0 from rfl)]
    have hs : ∀ j, j < p / 2 → p - 1 - j < 6 ∧ j < 6 := fun j hj => by omega
    refine zloopP (F := fun f j x => f7_turnRound_70 k f (nI p) (nI (zmir p e w 0)) (nI j) x) (I := fun j x => x.1 k 0 = nI p ∧ x.1 k 1 = nI e ∧ x.1 k 2 = M.1 k 2 ∧ ∀ t, t < 6 → x.1 (k + 1) t = nI (if t < j ∨ (t < p ∧ p - 1 - t < j) then w (p - 1 - t) else w t)) (P := fun o => ∃ M', o = some (nI (zmir p e w 0), M') ∧ zWc M' k p e (zmW p e w 0) ∧ M'.1 k 2 = M.1 k 2) (p / 2) (by omega) (k0 := 0) (by omega) (fun f j x hj0 hj hx => Or.inl ?_) (fun f x hx => ?_) ⟨w0, w1, rfl, fun t ht => by rw [w2 t ht, if_neg (by omega)]⟩
    · obtain ⟨x1, x2, x3, x4⟩ := hx
      have q := x4 j (by omega)
      have q2 := x4 (p - 1 - j) (by omega)
      rw [if_neg (by omega)] at q q2
      refine ⟨zsi (zsi x (k + 1) j (nI (w (p - 1 - j)))) (k + 1) (p - 1 - j) (nI (w j)), ?_, by simp [zsi1, x1], by simp [zsi1, x2], by simp [zsi1, x3], fun t ht => ?_⟩
      · show f7_turnRound_70 k (f + 1) _ _ (nI j) x = _
        rw [f7_turnRound_70, zl2, nI_div (by omega) (by omega) (by omega)]
        simp (disch := omega) only [zl0, zl1, zl2, zl3, zl4, zl5, zl6, zl7, zl8, zl9, zl10, zl11, zl12, nI_add, nI_sub, nI_mul, zaI_n, zaJ_n, zpI_n, zpJ_n, Option.bind_some, nI_le, nI_ge, nI_lt, nI_nlt, nI_ne, ↓reduceIte, if_true, if_false, q, q2]
      · rw [zsi1]
        by_cases htj : t = p - 1 - j
        · subst htj
          rw [if_pos ⟨rfl, rfl⟩, if_pos (by omega)]
          congr 2
          omega
        · rw [if_neg (by omega), zsi1]
          by_cases htj2 : t = j
          · subst htj2
            rw [if_pos ⟨rfl, rfl⟩, if_pos (by omega)]
          · rw [if_neg (by omega), x4 t ht]
            congr 1
            by_cases g : t < j ∨ (t < p ∧ p - 1 - t < j)
            · rw [if_pos g, if_pos (by omega)]
            · rw [if_neg g, if_neg (by omega)]
    · obtain ⟨x1, x2, x3, x4⟩ := hx
      obtain ⟨M', y1, y2, y3⟩ := c_settle (M := x) (k := k) (p := p) (e := e) (w := zmW p e w 0) x1 x2 (fun t ht => by
        rw [x4 t ht]
        show _ = nI (if t < p then w (p - 1 - t) else 0)
        congr 1
        by_cases g : t < p
        · rw [if_pos g]
          by_cases g2 : t < p / 2 ∨ (t < p ∧ p - 1 - t < p / 2)
          · rw [if_pos g2]
          · rw [if_neg g2]
            congr 1
            omega
        · rw [if_neg g, if_neg (by omega), c6 t (by omega)]) hc'
      refine ⟨M', ?_, y2, by rw [y3, x3]⟩
      show f7_turnRound_70 k (f + 1) _ _ (nI (p / 2)) x = _
      rw [f7_turnRound_70, zl2, nI_div (by omega) (by omega) (by omega), if_pos (nI_le (Nat.le_refl _) (by omega)), f7_turnRound_163, y1]
      rfl
  · rw [if_neg (by decide)]
    refine zloopP (F := fun f j x => f7_turnRound_130 k f (nI (zmir p e w 1)) (nI j) x) (I := fun j x => x.1 k 0 = nI p ∧ x.1 k 1 = nI e ∧ x.1 k 2 = M.1 k 2 ∧ ∀ t, t < 6 → x.1 (k + 1) t = nI (if t < j then zrev (w t) e else w t)) (P := fun o => ∃ M', o = some (nI (zmir p e w 1), M') ∧ zWc M' k p e (zmW p e w 1) ∧ M'.1 k 2 = M.1 k 2) p (by omega) (k0 := 0) (by omega) (fun f j x hj0 hj hx => Or.inl ?_) (fun f x hx => ?_) ⟨w0, w1, rfl, fun t ht => by simp [w2 t ht]⟩
    · obtain ⟨x1, x2, x3, x4⟩ := hx
      have q := x4 j (by omega)
      rw [if_neg (by omega)] at q
      refine ⟨zsi x (k + 1) j (nI (zrev (w j) e)), ?_, by simp [zsi1, x1], by simp [zsi1, x2], by simp [zsi1, x3], fun t ht => ?_⟩
      · show f7_turnRound_130 k (f + 1) _ (nI j) x = _
        rw [f7_turnRound_130]
        simp (disch := omega) only [zl0, zl1, zl2, zl3, zl4, zl5, zl6, zl7, zl8, zl9, zl10, zl11, zl12, nI_add, nI_sub, nI_mul, zaI_n, zaJ_n, zpI_n, zpJ_n, Option.bind_some, nI_le, nI_ge, nI_lt, nI_nlt, nI_ne, ↓reduceIte, if_true, if_false, x1, q]
        rw [c_trd x2 c4 (hc.lt64 j), Option.bind_some]
      · rw [zsi1]
        by_cases htj : t = j
        · subst htj
          rw [if_pos ⟨rfl, rfl⟩, if_pos (by omega)]
        · rw [if_neg (by omega), x4 t ht]
          congr 1
          by_cases g : t < j
          · rw [if_pos g, if_pos (by omega)]
          · rw [if_neg g, if_neg (by omega)]
    · obtain ⟨x1, x2, x3, x4⟩ := hx
      obtain ⟨M', y1, y2, y3⟩ := c_settle (M := x) (k := k) (p := p) (e := e) (w := zmW p e w 1) x1 x2 (fun t ht => by
        rw [x4 t ht]
        show _ = nI (zrev (w t) e)
        congr 1
        by_cases g : t < p
        · rw [if_pos g]
        · rw [if_neg g, c6 t (by omega), zrev_0]) hc'
      refine ⟨M', ?_, y2, by rw [y3, x3]⟩
      show f7_turnRound_130 k (f + 1) _ (nI p) x = _
      rw [f7_turnRound_130, x1, if_pos (nI_le (Nat.le_refl _) (by omega)), f7_turnRound_163, y1]
      rfl
end CU
