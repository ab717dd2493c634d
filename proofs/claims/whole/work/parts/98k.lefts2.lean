/-! lefts: the calls -/
theorem zbc_ab : ∀ a, a < 64 → ∀ b, b < 64 → zbc (a + b * 64) = zbc a + zbc b := by decide +kernel
theorem zbc_full : ∀ n, n < 7 → ∀ a, a < 2 ^ n → zbc a ≤ n ∧ (zbc a = n ↔ a = 2 ^ n - 1) := by decide +kernel
theorem zrp2_mem {n p e : Nat} {w : Nat → Nat} : ∀ m r, r ∈ zrp2 n p e w m → zvl n p e r = true := by
  intro m
  induction m with
  | zero => exact fun r hr => by simp [zrp2] at hr
  | succ m ih =>
    intro r hr
    rw [zrp2] at hr
    by_cases g : zvl n p e m = true ∧ zcd p e w m ∉ (zrp2 n p e w m).map (zcd p e w)
    · rw [if_pos g] at hr
      rcases List.mem_append.mp hr with q | q
      · exact ih r q
      · rw [List.mem_singleton.mp q]
        exact g.1
    · rw [if_neg g] at hr
      exact ih r hr
section LF
variable {M : zM} {p e n : Nat} {w : Nat → Nat}
theorem zvl_ss {s : Nat} (hp : p ≤ 6) (h : zvl n p e s = true) : zss p e s := by
  unfold zvl at h
  rw [Bool.and_eq_true] at h
  by_cases g : zss p e s
  · exact g
  · rw [zsS_f hp g] at h
    exact absurd h.1 (by decide)
theorem zvl_in {s : Nat} (hp : p ≤ 6) (hs : zss p e s) : zvl n p e s = true ↔ zbc s = n ∧ s % 64 ≠ 2 ^ p - 1 ∧ s / 64 ≠ 2 ^ e - 1 := by
  unfold zvl
  rw [zsS_t hp hs, Bool.true_and, Bool.and_eq_true, Bool.and_eq_true, beq_iff_eq, Bool.not_eq_true', Bool.not_eq_true', beq_eq_false_iff_ne, beq_eq_false_iff_ne]
/-- whether something is left -/
theorem zlvo_e {s : Nat} (hc : zCl p e w) (hs : zss p e s) : zlvo (zlv s p e w 12) = 0 ↔ ¬ (s % 64 ≠ 2 ^ p - 1 ∧ s / 64 ≠ 2 ^ e - 1) := by
  obtain ⟨c1, c2, c3, c4, c5, c6⟩ := id hc
  have h1 := zpe c2
  have h2 := zpe c4
  have hsb := zss_sb hc hs
  have hlt := zsb_lt hsb
  have he := zlv_ec (w := w) hs c4
  have hcn := zlv_cnt hc hsb 12 (by omega)
  rw [zctop_12 hlt] at hcn
  obtain ⟨a1, a2⟩ := zbc_full p (by omega) _ hs.1
  obtain ⟨a3, a4⟩ := zbc_full e (by omega) _ hs.2
  have hab := zbc_ab (s % 64) (by omega) (s / 64) (by omega)
  rw [show s % 64 + s / 64 * 64 = s by omega] at hab
  unfold zlvo
  by_cases g1 : (zlv s p e w 12).1 = 0
  · rw [if_pos g1]
    refine ⟨fun _ q => q.1 (a2.mp (by omega)), fun _ => rfl⟩
  · rw [if_neg g1]
    by_cases g2 : (zlv s p e w 12).2.1 = 0
    · rw [if_pos g2]
      exact ⟨fun _ q => q.2 (a4.mp (by omega)), fun _ => rfl⟩
    · rw [if_neg g2]
      refine ⟨fun q => absurd q (by decide), fun q => absurd ⟨fun r => ?_, fun r => ?_⟩ q⟩
      · have := a2.mpr r
        omega
      · have := a4.mpr r
        omega
theorem zcd_b {s : Nat} (hc : zCl p e w) (hs : zss p e s) : zcd p e w s < 2 ^ 62 := by
  obtain ⟨b1, b2, b3, b4⟩ := zlvI_n hc (zss_sb hc hs) 12 (by omega)
  have hsl := zsq_lt (zlv s p e w 12).1 0 (w := (zlv s p e w 12).2.2) (fun j h1 h2 => b3 j (by omega))
  have hpw : 64 ^ (zlv s p e w 12).1 ≤ 64 ^ 6 := Nat.pow_le_pow_right (by omega) b1
  unfold zcd zshX
  omega
theorem zcd_0 {s : Nat} (hc : zCl p e w) (hs : zss p e s) (hv : zvl n p e s = true) : zcd p e w s ≠ 0 := by
  have q := (zvl_in hc.2.1 hs).mp hv
  have g : zlvo (zlv s p e w 12) ≠ 0 := fun r => (zlvo_e hc hs).mp r q.2
  unfold zcd zshX
  unfold zlvo at g
  by_cases g1 : (zlv s p e w 12).1 = 0
  · rw [if_pos g1] at g
    exact absurd rfl g
  · omega
/-- what the class holds at a set -/
def zlI (x : zM) (n p e : Nat) (w : Nat → Nat) (b m : Nat) : Prop := zWc x 1 p e w ∧ x.1 27 1 = nI (e - zbc b) ∧ (∀ i, i < p → x.1 28 i = nI (zxd b (w i) 6)) ∧ zHs x ((zrp2 n p e w m).map (zcd p e w))
theorem c_left_step (hc : zCl p e w) (hn : n < 5) {a b : Nat} (ha : a + 1 < 2 ^ p) (hb : b + 1 < 2 ^ e) {x : zM} (hx : zlI x n p e w b (b * 64 + a)) {K : Int32 → Int32 → Int32 → Int32 → Int32 → Int32 → zM → Option (Int32 × zM)} {f : Nat} : ∃ y, f8_lefts_74 K (f + 1) (nI n) (nI (zmn n p e (b * 64 + a))) (nI (zrp2 n p e w (b * 64 + a)).length) (nI (2 ^ p - 1)) (nI (2 ^ e - 1)) (nI b) (nI a) x = f8_lefts_74 K f (nI n) (nI (zmn n p e (b * 64 + (a + 1)))) (nI (zrp2 n p e w (b * 64 + (a + 1))).length) (nI (2 ^ p - 1)) (nI (2 ^ e - 1)) (nI b) (nI (a + 1)) y ∧ zlI y n p e w b (b * 64 + (a + 1)) := by
  obtain ⟨c1, c2, c3, c4, c5, c6⟩ := id hc
  have hp := zpe c2
  have he := zpe c4
  obtain ⟨x1, x2, x3, x4⟩ := hx
  have em : (b * 64 + a) % 64 = a := by omega
  have ed : (b * 64 + a) / 64 = b := by omega
  have hss : zss p e (b * 64 + a) := ⟨by rw [em]; omega, by rw [ed]; omega⟩
  have hab := zbc_ab a (by omega) b (by omega)
  rw [show a + b * 64 = b * 64 + a by omega] at hab
  have hlt := (zss_lt c2 c4 hss).1
  have hbs := zbc_lt hlt
  have hv : zvl n p e (b * 64 + a) = true ↔ zbc a + zbc b = n := by
    rw [zvl_in c2 hss, em, ed, hab]
    exact ⟨fun q => q.1, fun q => ⟨q, by omega, by omega⟩⟩
  have hlen := zrp2_len (n := n) (p := p) (e := e) (w := w) (b * 64 + a)
  have hmn := zmn_le (n := n) (p := p) (e := e) hn (m := b * 64 + a) (by omega)
  have er : zrp2 n p e w (b * 64 + (a + 1)) = if zvl n p e (b * 64 + a) = true ∧ zcd p e w (b * 64 + a) ∉ (zrp2 n p e w (b * 64 + a)).map (zcd p e w) then zrp2 n p e w (b * 64 + a) ++ [b * 64 + a] else zrp2 n p e w (b * 64 + a) := rfl
  have emn : zmn n p e (b * 64 + (a + 1)) = zmn n p e (b * 64 + a) + if zvl n p e (b * 64 + a) = true then 1 else 0 := rfl
  rw [f8_lefts_74, if_neg (nI_ge (by omega) (by omega)), bc_n (by omega), Option.bind_some, bc_n (by omega), Option.bind_some, nI_add]
  by_cases g : zbc a + zbc b = n
  · have hvt := hv.mpr g
    rw [if_pos (by rw [g]), c_shapeW x1 hc (by omega) (by omega) x2 x3, Option.bind_some, er, emn, if_pos hvt]
    rw [show a + b * 64 = b * 64 + a by omega]
    rcases c_isNew x4 (zcd_0 hc hss hvt) (zcd_b hc hss) (by rw [List.length_map]; omega) with ⟨q1, y, q2, q3⟩ | ⟨q1, y, q2, q3⟩
    · have oy := o_X1_isNew q2
      rw [show f1_isNew (lN (zshX (zlv (b * 64 + a) p e w 12))) x = some (0, y) from q2, Option.bind_some, f8_lefts_130, if_neg (show ¬ (zvl n p e (b * 64 + a) = true ∧ zcd p e w (b * 64 + a) ∉ (zrp2 n p e w (b * 64 + a)).map (zcd p e w)) from fun r => r.2 q1)]
      simp only []
      rw [nI_1, nI_1, if_pos trivial, show nI (zrp2 n p e w (b * 64 + a)).length + (0 : Int32) = nI ((zrp2 n p e w (b * 64 + a)).length + 0) from nI_add _ 0]
      exact ⟨y, rfl, x1.to (oy.1 1 (by simp) (by simp)).1 (oy.1 2 (by simp) (by simp)).1, by rw [(oy.1 27 (by simp) (by simp)).1, x2], fun i hi => by rw [(oy.1 28 (by simp) (by simp)).1, x3 i hi], by rw [er, if_neg (fun r => r.2 q1)]; exact q3⟩
    · have oy := o_X1_isNew q2
      rw [show f1_isNew (lN (zshX (zlv (b * 64 + a) p e w 12))) x = some (1, y) from q2, Option.bind_some, f8_lefts_130, if_pos (show (zvl n p e (b * 64 + a) = true ∧ zcd p e w (b * 64 + a) ∉ (zrp2 n p e w (b * 64 + a)).map (zcd p e w)) from ⟨hvt, q1⟩), List.length_append]
      simp only []
      rw [nI_1, nI_1, if_neg (by decide), nI_1]
      refine ⟨y, rfl, x1.to (oy.1 1 (by simp) (by simp)).1 (oy.1 2 (by simp) (by simp)).1, by rw [(oy.1 27 (by simp) (by simp)).1, x2], fun i hi => by rw [(oy.1 28 (by simp) (by simp)).1, x3 i hi], ?_⟩
      rw [er, if_pos ⟨hvt, q1⟩, List.map_append]
      exact q3
  · have hvf : ¬ zvl n p e (b * 64 + a) = true := fun q => g (hv.mp q)
    rw [if_neg (nI_ne g (by omega) (by omega)), f8_lefts_130, nI_1, er, emn, if_neg hvf, if_neg (fun r => hvf r.1), Nat.add_zero]
    refine ⟨x, rfl, x1, x2, x3, ?_⟩
    rw [er, if_neg (fun r => hvf r.1)]
    exact x4
theorem c_lefts (h : zWc M 1 p e w) (hc : zCl p e w) (hn : n < 5) (hs : zHs M []) {P : Option (Int32 × zM) → Prop} (hP : ∀ x, P ((f3_tell (Int32.toInt64 (nI (zmn n p e (zall p e + 1)))) x).bind fun M1 => some (nI (zrp2 n p e w (zall p e + 1)).length, M1))) : P (f8_lefts_51 zfuel (nI n) 0 0 (nI (2 ^ p - 1)) (nI (2 ^ e - 1)) 0 M) := by
  obtain ⟨c1, c2, c3, c4, c5, c6⟩ := id hc
  have hp := zpe c2
  have he := zpe c4
  have hend := zrp2_skip (n := n) (p := p) (e := e) (w := w) (m := (2 ^ e - 1) * 64) (k := zall p e + 1) (by unfold zall; omega) (fun x h1 h2 => by
    unfold zall at h2
    have hx : x / 64 = 2 ^ e - 1 := by omega
    cases r : zvl n p e x
    · rfl
    · exact absurd hx ((zvl_in c2 (zvl_ss c2 r)).mp r).2.2)
  rw [hend.1, hend.2] at hP
  refine zloopP (F := fun f b x => f8_lefts_51 f (nI n) (nI (zmn n p e (b * 64))) (nI (zrp2 n p e w (b * 64)).length) (nI (2 ^ p - 1)) (nI (2 ^ e - 1)) (nI b) x) (I := fun b x => zWc x 1 p e w ∧ zHs x ((zrp2 n p e w (b * 64)).map (zcd p e w))) (P := P) (2 ^ e - 1) (by omega) (k0 := 0) (by omega) (fun f b x _ hb hx => Or.inl ?_) (fun f x hx => ?_) (x := M) ⟨h, by rw [Nat.zero_mul]; exact hs⟩
  · obtain ⟨x1, x2⟩ := hx
    obtain ⟨y, y1, y2, y3⟩ := c_narrow x1 hc (show b < 2 ^ e by omega)
    have oy := o_X1_narrow y1
    have yI : zlI y n p e w b (b * 64 + 0) := ⟨x1.to (oy.1 1 (by simp) (by simp)).1 (oy.1 2 (by simp) (by simp)).1, y2, y3, x2.to (oy.1 29 (by simp) (by simp)).2⟩
    have hsk := zrp2_skip (n := n) (p := p) (e := e) (w := w) (m := b * 64 + (2 ^ p - 1)) (k := (b + 1) * 64) (by omega) (fun x h1 h2 => by
      cases r : zvl n p e x
      · rfl
      · have hs := zvl_ss c2 r
        have := hs.1
        exact absurd (show x % 64 = 2 ^ p - 1 by omega) ((zvl_in c2 hs).mp r).2.1)
    have inn : ∃ z, f8_lefts_74 (f8_lefts_136 (f8_lefts_51 f)) zfuel (nI n) (nI (zmn n p e (b * 64 + 0))) (nI (zrp2 n p e w (b * 64 + 0)).length) (nI (2 ^ p - 1)) (nI (2 ^ e - 1)) (nI b) (nI 0) y = f8_lefts_51 f (nI n) (nI (zmn n p e ((b + 1) * 64))) (nI (zrp2 n p e w ((b + 1) * 64)).length) (nI (2 ^ p - 1)) (nI (2 ^ e - 1)) (nI (b + 1)) z ∧ zWc z 1 p e w ∧ zHs z ((zrp2 n p e w ((b + 1) * 64)).map (zcd p e w)) := by
      refine zloopP (F := fun g a x => f8_lefts_74 (f8_lefts_136 (f8_lefts_51 f)) g (nI n) (nI (zmn n p e (b * 64 + a))) (nI (zrp2 n p e w (b * 64 + a)).length) (nI (2 ^ p - 1)) (nI (2 ^ e - 1)) (nI b) (nI a) x) (I := fun a x => zlI x n p e w b (b * 64 + a)) (P := fun o => ∃ z, o = f8_lefts_51 f (nI n) (nI (zmn n p e ((b + 1) * 64))) (nI (zrp2 n p e w ((b + 1) * 64)).length) (nI (2 ^ p - 1)) (nI (2 ^ e - 1)) (nI (b + 1)) z ∧ zWc z 1 p e w ∧ zHs z ((zrp2 n p e w ((b + 1) * 64)).map (zcd p e w))) (2 ^ p - 1) (by omega) (k0 := 0) (by omega) (fun g a x _ ha hx => Or.inl (c_left_step hc hn (by omega) (by omega) hx)) (fun g x hx => ⟨x, ?_, hx.1, ?_⟩) (x := y) yI
      · show f8_lefts_74 _ (g + 1) _ _ _ _ _ _ (nI (2 ^ p - 1)) x = _
        rw [f8_lefts_74, if_pos (nI_le (Nat.le_refl _) (by omega)), f8_lefts_136, nI_1, hsk.1, hsk.2]
      · rw [hsk.1]
        exact hx.2.2.2
    obtain ⟨z, z1, z2⟩ := inn
    refine ⟨z, ?_, z2⟩
    show f8_lefts_51 (f + 1) _ _ _ _ _ (nI b) x = _
    rw [f8_lefts_51, if_neg (nI_ge hb (by omega)), y1, Option.bind_some]
    exact z1
  · show P (f8_lefts_51 (f + 1) _ _ _ _ _ (nI (2 ^ e - 1)) x)
    rw [f8_lefts_51, if_pos (nI_le (Nat.le_refl _) (by omega))]
    exact hP x
/-- the reference -/
def zaA (p e : Nat) (w : Nat → Nat) (s : Nat) : Nat := zasn (zlv s p e w 12) (zlv s p e w 12).1
theorem zaA_lt {s : Nat} (hc : zCl p e w) (hs : zss p e s) : zaA p e w s < 2 ^ 62 := by
  obtain ⟨b1, b2, b3, b4⟩ := zlvI_n hc (zss_sb hc hs) 12 (by omega)
  have h1 := (zasn_b (zlv s p e w 12).1 b3).2
  have hpw : 64 ^ (zlv s p e w 12).1 ≤ 64 ^ 6 := Nat.pow_le_pow_right (by omega) b1
  have h2 : (10 * (zlv s p e w 12).1 + (zlv s p e w 12).2.1 + 1) * 64 ^ (zlv s p e w 12).1 ≤ 67 * 64 ^ 6 := Nat.mul_le_mul (by omega) hpw
  unfold zaA
  omega
theorem zaA_e {s r : Nat} (hc : zCl p e w) (hs : zss p e s) (hr : zss p e r) : zaA p e w r = zaA p e w s ↔ zcd p e w r = zcd p e w s := by
  obtain ⟨b1, b2, b3, -⟩ := zlvI_n hc (zss_sb hc hs) 12 (by omega)
  obtain ⟨g1, g2, g3, -⟩ := zlvI_n hc (zss_sb hc hr) 12 (by omega)
  exact zasn_X g1 g2 g3 b1 b2 b3
def zsn2 (x : zM) (p e : Nat) (w : Nat → Nat) (R : List Nat) : Prop := ∀ i r, R[i]? = some r → x.2 57 i = lN (zaA p e w r)
theorem r_search (hc : zCl p e w) {R : List Nat} (hR : zsn2 M p e w R) (hlen : R.length < 500) (hm : ∀ r, r ∈ R → zss p e r) {s : Nat} (hs : zss p e s) {K : Int32 → Int32 → Int32 → Int32 → Int32 → Int64 → Int32 → zM → Option (Int32 × zM)} {v1 v2 v4 v5 : Int32} : ∃ b, (b = true ↔ zcd p e w s ∉ R.map (zcd p e w)) ∧ f9_lefts_87 K zfuel v1 v2 (nI R.length) v4 v5 (lN (zaA p e w s)) 1 0 M = K v1 v2 (nI R.length) v4 v5 (lN (zaA p e w s)) (nI (zi b)) M := by
  have hsl := zaA_lt hc hs
  refine zloopP (σ := Bool) (F := fun f k b => f9_lefts_87 K f v1 v2 (nI R.length) v4 v5 (lN (zaA p e w s)) (nI (zi b)) (nI k) M) (I := fun k b => (b = true → ∀ i r, i < k → R[i]? = some r → zcd p e w r ≠ zcd p e w s) ∧ (b = false → zcd p e w s ∈ R.map (zcd p e w))) (P := fun o => ∃ b, (b = true ↔ zcd p e w s ∉ R.map (zcd p e w)) ∧ o = K v1 v2 (nI R.length) v4 v5 (lN (zaA p e w s)) (nI (zi b)) M) R.length (by omega) (k0 := 0) (by omega) (fun f k b _ hk hI => ?_) (fun f b hI => ⟨b, ?_, ?_⟩) (x := true) ⟨fun _ i r hi => absurd hi (by omega), fun q => absurd q (by decide)⟩
  · obtain ⟨i1, i2⟩ := hI
    cases b
    · refine Or.inr ⟨false, ⟨fun q => absurd q (by decide), fun q => absurd (i2 rfl) q⟩, ?_⟩
      show f9_lefts_87 K (f + 1) _ _ _ _ _ _ (nI (zi false)) (nI k) M = _
      rw [f9_lefts_87, if_neg (nI_ge hk (by omega)), if_pos (show nI (zi false) = 0 from rfl)]
    · have hg : R[k]? = some R[k] := List.getElem?_eq_getElem hk
      have hrs := hm R[k] (List.getElem_mem hk)
      have hrl := zaA_lt hc hrs
      have e1 := hR k _ hg
      have est : f9_lefts_87 K (f + 1) v1 v2 (nI R.length) v4 v5 (lN (zaA p e w s)) (nI (zi true)) (nI k) M = f9_lefts_87 K f v1 v2 (nI R.length) v4 v5 (lN (zaA p e w s)) (if lg_cmp (lN (zaA p e w R[k])) (lN (zaA p e w s)) = 0 then 0 else 1) (nI (k + 1)) M := by
        rw [f9_lefts_87, if_neg (nI_ge hk (by omega)), if_neg (show ¬ nI (zi true) = 0 by decide), zaJ_n (by omega) (by omega), e1, Option.bind_some, nI_1]
      have hq : lg_cmp (lN (zaA p e w R[k])) (lN (zaA p e w s)) = 0 ↔ zcd p e w R[k] = zcd p e w s := by
        rw [lgc_eq, pk_lEQ (by omega) (by omega), zaA_e hc hs hrs]
      by_cases g : zcd p e w R[k] = zcd p e w s
      · rw [if_pos (hq.mpr g)] at est
        exact Or.inl ⟨false, est, fun q => absurd q (by decide), fun _ => List.mem_map.mpr ⟨R[k], List.getElem_mem hk, g⟩⟩
      · rw [if_neg (fun q => g (hq.mp q))] at est
        refine Or.inl ⟨true, est, fun _ i r hi hr => ?_, fun q => absurd q (by decide)⟩
        by_cases g2 : i = k
        · subst g2
          rw [hg] at hr
          rw [← Option.some.inj hr]
          exact g
        · exact i1 rfl i r (by omega) hr
  · constructor
    · intro q r
      obtain ⟨y, y1, y2⟩ := List.mem_map.mp r
      obtain ⟨i, hi, y3⟩ := List.getElem_of_mem y1
      exact hI.1 q i y hi (by rw [List.getElem?_eq_getElem hi, y3]) y2
    · intro q
      cases b
      · exact absurd (hI.2 rfl) q
      · rfl
  · show f9_lefts_87 K (f + 1) _ _ _ _ _ _ (nI (zi b)) (nI R.length) M = _
    rw [f9_lefts_87, if_pos (nI_le (Nat.le_refl _) (by omega))]
theorem r_lefts (h : zRr M 41 p e w) (hc : zCl p e w) (hn : n < 5) {P : Option (Int32 × zM) → Prop} (hP : ∀ x, P ((f9_enters (Int32.toInt64 (nI (zmn n p e (zall p e + 1)))) (zsi x 39 1 0)).bind fun M1 => some (nI (zrp2 n p e w (zall p e + 1)).length, M1))) : P (f9_lefts_35 zfuel (nI n) (nI (zall p e)) 0 0 0 M) := by
  obtain ⟨c1, c2, c3, c4, c5, c6⟩ := id hc
  have hall := zall_lt hc
  refine zloopP (F := fun f s x => f9_lefts_35 f (nI n) (nI (zall p e)) (nI (zrp2 n p e w s).length) (nI (zmn n p e s)) (nI s) x) (I := fun s x => zRr x 41 p e w ∧ zsn2 x p e w (zrp2 n p e w s)) (P := P) (zall p e + 1) (by omega) (k0 := 0) (by omega) (fun f s x _ hs hx => Or.inl ?_) (fun f x hx => ?_) (x := M) ⟨h, fun i r hr => by simp [zrp2] at hr⟩
  · obtain ⟨x1, x2⟩ := hx
    have er : zrp2 n p e w (s + 1) = if zvl n p e s = true ∧ zcd p e w s ∉ (zrp2 n p e w s).map (zcd p e w) then zrp2 n p e w s ++ [s] else zrp2 n p e w s := rfl
    have emn : zmn n p e (s + 1) = zmn n p e s + if zvl n p e s = true then 1 else 0 := rfl
    have hlen := zrp2_len (n := n) (p := p) (e := e) (w := w) s
    have hmn := zmn_le (n := n) (p := p) (e := e) hn (m := s) (by omega)
    have no : ∀ y : zM, ¬ zvl n p e s = true → zRr y 41 p e w → zsn2 y p e w (zrp2 n p e w s) → ∃ z, f9_lefts_143 (f9_lefts_35 f) (nI n) (nI (zall p e)) (nI (zrp2 n p e w s).length) (nI (zmn n p e s)) (nI s) y = f9_lefts_35 f (nI n) (nI (zall p e)) (nI (zrp2 n p e w (s + 1)).length) (nI (zmn n p e (s + 1))) (nI (s + 1)) z ∧ zRr z 41 p e w ∧ zsn2 z p e w (zrp2 n p e w (s + 1)) := by
      intro y hv y1 y2
      rw [er, emn, if_neg hv, if_neg (fun q => hv q.1), f9_lefts_143, nI_1]
      exact ⟨y, rfl, y1, y2⟩
    show ∃ y, f9_lefts_35 (f + 1) (nI n) (nI (zall p e)) _ _ (nI s) x = _ ∧ _
    rw [f9_lefts_35, if_neg (nI_nlt (by omega) (by omega)), nI_andn _ (by omega)]
    by_cases g : zss p e s
    · have hsb := zss_sb hc g
      have hlt := zsb_lt hsb
      have hbs := zbc_lt hlt
      obtain ⟨b1, b2, b3, b4⟩ := zlvI_n hc hsb 12 (by omega)
      rw [if_pos (by rw [(zss_df c2).mpr g]; rfl), bc_n hlt, Option.bind_some]
      by_cases g2 : zbc s = n
      · rw [if_pos (by rw [g2])]
        obtain ⟨y, y1, y2⟩ := r_leaves x1 hc g
        have oy := o_X9_leaves y1
        have yr1 := x1.to (oy.1 41 (by simp) (by simp)).1
        have yr2 : zsn2 y p e w (zrp2 n p e w s) := fun i r hr => by rw [(oy.1 57 (by simp) (by simp)).2]; exact x2 i r hr
        rw [y1, Option.bind_some]
        simp only []
        by_cases g3 : zlvo (zlv s p e w 12) = 0
        · rw [if_pos g3]
          exact no y (fun q => (zlvo_e hc g).mp g3 ((zvl_in c2 g).mp q).2) yr1 yr2
        · have hv : zvl n p e s = true := (zvl_in c2 g).mpr ⟨g2, by
            by_cases q : s % 64 ≠ 2 ^ p - 1 ∧ s / 64 ≠ 2 ^ e - 1
            · exact q
            · exact absurd ((zlvo_e hc g).mpr q) g3⟩
          obtain ⟨b, q1, q2⟩ := r_search hc yr2 (by omega) (fun r hr => zvl_ss c2 (zrp2_mem s r hr)) g (K := f9_lefts_124 (f9_lefts_35 f)) (v1 := nI n) (v2 := nI (zall p e)) (v4 := nI (zmn n p e s)) (v5 := nI s)
          have ef : f9_flag (nI (zi b)) = some (nI (zi b)) := by cases b <;> rfl
          rw [if_neg g3, r_asNumber y2 b1 b2 b3, Option.bind_some]
          rw [show zasn (zlv s p e w 12) (zlv s p e w 12).1 = zaA p e w s from rfl, q2, f9_lefts_124, zpJ_n (by omega) (by omega), Option.bind_some, ef, Option.bind_some, nI_add, nI_1, f9_lefts_143, nI_1, er, emn, if_pos hv]
          cases b
          · have hq : zcd p e w s ∈ (zrp2 n p e w s).map (zcd p e w) := by
              by_cases k : zcd p e w s ∈ (zrp2 n p e w s).map (zcd p e w)
              · exact k
              · exact absurd (q1.mpr k) (by decide)
            rw [if_neg (fun k => k.2 hq)]
            refine ⟨_, rfl, yr1, fun i r hr => ?_⟩
            have hi := (List.getElem?_eq_some_iff.mp hr).1
            rw [zsj2, if_neg (by omega)]
            exact yr2 i r hr
          · have hq := q1.mp rfl
            rw [if_pos ⟨hv, hq⟩, List.length_append]
            refine ⟨_, rfl, yr1, fun i r hr => ?_⟩
            rw [zsj2]
            by_cases k : i = (zrp2 n p e w s).length
            · rw [if_pos ⟨rfl, k⟩]
              rw [k, List.getElem?_append_right (Nat.le_refl _), Nat.sub_self] at hr
              have : s = r := by simpa using hr
              rw [this]
            · rw [if_neg (fun q => k q.2)]
              have hi := (List.getElem?_eq_some_iff.mp hr).1
              rw [List.length_append] at hi
              have hi2 : i < (zrp2 n p e w s).length := by
                have : i < (zrp2 n p e w s).length + 1 := hi
                omega
              rw [List.getElem?_append_left hi2] at hr
              exact yr2 i r hr
      · rw [if_neg (nI_ne g2 (by omega) (by omega))]
        exact no x (fun q => g2 ((zvl_in c2 g).mp q).1) x1 x2
    · have hd : zdf s (zall p e) ≤ s := zdf_le s _
      rw [if_neg (nI_ne0 (Nat.pos_of_ne_zero (fun q => g ((zss_df c2).mp q))) (by omega))]
      exact no x (fun q => g (zvl_ss c2 q)) x1 x2
  · show P (f9_lefts_35 (f + 1) _ (nI (zall p e)) _ _ (nI (zall p e + 1)) x)
    rw [f9_lefts_35, if_pos (nI_lt (by omega) (by omega))]
    exact hP x
end LF
theorem zP_lefts_ok : zP_lefts zInv := by
  intro c M v hc h
  obtain ⟨p, e, w, hA⟩ := h.1
  obtain ⟨hc1, hW, hR, hN⟩ := id hA
  have hp := zpe hc1.2.1
  have he := zpe hc1.2.2.2.1
  have hp6 := hc1.2.1
  have he6 := hc1.2.2.2.1
  have out : f8_lefts v M = some (-1, M) → f9_in v.toInt64 0 4 = some 0 → ∃ (r : Int32) (M1 M2 : zM), f8_lefts v M = some (r, M1) ∧ f9_lefts v M1 = some (r, M2) ∧ zInv (c + 1) M2 := by
    intro h8 hi
    refine ⟨_, _, zsi M 39 0 0, h8, ?_, zInv_to h (S := []) (s := [0]) (zOut.rf.si 39 0 0 (Or.inr ⟨rfl, by simp⟩)) (Or.inl rfl) (Or.inl rfl) (Or.inl rfl) (Or.inl rfl) (Or.inl rfl) (Or.inl rfl) (Or.inl rfl) (Or.inl rfl)⟩
    rw [f9_lefts, hi]
    rfl
  rcases pk_ix v (n := 5) (by omega) with hv | hv | ⟨n, hn, rfl⟩
  · exact out (by rw [f8_lefts, if_pos hv]) (in_neg (n := 4) (by omega) hv)
  · have g := zix_big (by omega) hv
    exact out (by rw [f8_lefts, if_neg g.1, if_neg (show ¬ v ≤ 4 from (g.2 4 (by omega)).1)]) (in_big (n := 4) (by omega) hv)
  obtain ⟨M1, k1, k2⟩ := c_fillJ 29 1024 0 M (by omega)
  have o1 := o_J7_fill_d0a16 k1
  have hW1 : zWc M1 1 p e w := hW.to (o1.1 1 (by simp) (by simp)).1 (o1.1 2 (by simp) (by simp)).1
  have key : ∃ M2, f8_lefts (nI n) M = some (nI (zrp2 n p e w (zall p e + 1)).length, M2) ∧ zR8 M2 [(nI (zmn n p e (zall p e + 1))).toInt64] := by
    have e1 : zshl 1 (nI p) - 1 = nI (2 ^ p - 1) := by
      rw [z1shl (by omega)]
      exact nI_sub (b := 1) (by omega)
    have e2 : zshl 1 (nI e) - 1 = nI (2 ^ e - 1) := by
      rw [z1shl (by omega)]
      exact nI_sub (b := 1) (by omega)
    rw [f8_lefts, if_neg (nI_pos (by omega)), if_pos (show nI n ≤ 4 from nI_le (b := 4) (by omega) (by omega)), f1_forgetShapes, k1, Option.bind_some, Option.bind_some, hW1.1, hW1.2.1, e1, e2]
    refine c_lefts hW1 hc1 hn (zHs_0 k2) (P := fun o => ∃ M2, o = some (nI (zrp2 n p e w (zall p e + 1)).length, M2) ∧ zR8 M2 [(nI (zmn n p e (zall p e + 1))).toInt64]) (fun x => ?_)
    obtain ⟨N, n1, n2⟩ := c_tell (nI (zmn n p e (zall p e + 1))).toInt64 x
    exact ⟨N, by rw [n1]; rfl, n2⟩
  obtain ⟨M2, h8, z8⟩ := key
  have o8 := o_X8_lefts h8
  have hR0 : zRr (zsi M2 39 0 0) 41 p e w := zRr_si (hR.to (o8.1 41 (by simp) (by simp)).1) (by decide)
  have key9 : ∃ X, f9_lefts (nI n) M2 = some (nI (zrp2 n p e w (zall p e + 1)).length, X) ∧ zR9 X [(nI (zmn n p e (zall p e + 1))).toInt64] := by
    have q : f9_in (nI n).toInt64 0 4 = some 1 := in_ok (n := 4) (by omega) (by omega)
    rw [f9_lefts, q, Option.bind_some, if_neg (by decide), r_all hR0 hc1, Option.bind_some]
    refine r_lefts hR0 hc1 hn (P := fun o => ∃ X, o = some (nI (zrp2 n p e w (zall p e + 1)).length, X) ∧ zR9 X [(nI (zmn n p e (zall p e + 1))).toInt64]) (fun x => ?_)
    obtain ⟨N, n1, n2⟩ := r_tell (nI (zmn n p e (zall p e + 1))).toInt64 x
    exact ⟨N, by rw [n1]; rfl, n2⟩
  obtain ⟨X, h9, z9⟩ := key9
  exact ⟨_, _, _, h8, h9, zq h o8 (o_X9_lefts h9) z8 z9 rfl rfl⟩
