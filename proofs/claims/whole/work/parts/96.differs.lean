/-! differs -/
def zdj (p e : Nat) (w u : Nat → Nat) (a b i j : Nat) : Nat := if u i / 2 ^ j % 2 = w ((i + a) % p) / 2 ^ ((j + b) % e) % 2 then 0 else 1
def zdD (p e : Nat) (w u : Nat → Nat) (a b : Nat) : Nat := zdd (zdj p e w u a b) e p
theorem zdd_le {g : Nat → Nat → Nat} {e : Nat} (h : ∀ i j, g i j ≤ 1) : ∀ n, zdd g e n ≤ n * e := by
  intro n
  induction n with
  | zero => simp [zdd]
  | succ n ih =>
    have := zsum_le (g := g n) (b := 1) (n := e) (fun i _ => h n i)
    rw [zdd, Nat.add_mul]
    omega
theorem zdj_le {p e : Nat} {w u : Nat → Nat} {a b i j : Nat} : zdj p e w u a b i j ≤ 1 := by
  unfold zdj
  split <;> omega
theorem zdD_le {p e : Nat} {w u : Nat → Nat} (hp : p ≤ 6) (he : e ≤ 6) (a b : Nat) : zdD p e w u a b ≤ 36 := by
  have h1 := zdd_le (g := zdj p e w u a b) (e := e) (fun i j => zdj_le) p
  have h2 : p * e ≤ 6 * 6 := Nat.mul_le_mul hp he
  unfold zdD
  omega
abbrev zD3s : Type := Nat × Nat × Nat
def zdst (D : Nat → Nat → Nat) (a b : Nat) (s : zD3s) : zD3s := if s.1 ≤ D a b then s else (D a b, a, b)
def zdso (D : Nat → Nat → Nat) (e a : Nat) (s : zD3s) : zD3s := zfo (zdst D a) 0 s e
def zdsa (D : Nat → Nat → Nat) (e n : Nat) : zD3s := zfo (zdso D e) 0 (37, 0, 0) n
theorem zdsa_s (D : Nat → Nat → Nat) (e n : Nat) : zdsa D e (n + 1) = zdso D e n (zdsa D e n) := by
  show zdso D e (0 + n) _ = _
  rw [Nat.zero_add]
  rfl
theorem zdso_s (D : Nat → Nat → Nat) (a : Nat) (s : zD3s) (n : Nat) : zfo (zdst D a) 0 s (n + 1) = zdst D a n (zfo (zdst D a) 0 s n) := by
  show zdst D a (0 + n) _ = _
  rw [Nat.zero_add]
section DF
variable {M : zM} {p e : Nat} {w u : Nat → Nat}
theorem c_differences (h : zWc M 1 p e w) (h3 : zWc M 3 p e u) (hc : zCl p e w) (hc3 : zCl p e u) {a b : Nat} (ha : a < 6) (hb : b < 6) : f8_differences (nI a) (nI b) M = some (nI (zdD p e w u a b)) := by
  obtain ⟨h1, h2, h3', h4, h5, h6⟩ := id hc
  rw [f8_differences]
  refine zloop0 (F := fun f n => f8_differences_5 f (nI a) (nI b) (nI (zdd (zdj p e w u a b) e n)) (nI n) M) p (by omega) (fun f n hn => ?_) (fun f => ?_)
  · show f8_differences_5 (f + 1) _ _ _ (nI n) M = _
    rw [f8_differences_5, h.1, if_neg (nI_ge hn (by omega))]
    refine zloop0 (F := fun g j => f8_differences_20 (f8_differences_92 (f8_differences_5 f)) g (nI a) (nI b) (nI (zdd (zdj p e w u a b) e n + zsum (zdj p e w u a b n) j)) (nI n) (nI j) M) e (by omega) (fun g j hj => ?_) (fun g => ?_)
    · show f8_differences_20 _ (g + 1) _ _ _ (nI n) (nI j) M = _
      have m1 := Nat.mod_lt (n + a) (show 0 < p by omega)
      have m2 := Nat.mod_lt (j + b) (show 0 < e by omega)
      rw [f8_differences_20, h.1, h.2.1, if_neg (nI_ge hj (by omega)), nI_add, zmod_n (by omega) (by omega) (by omega), Option.bind_some, nI_add, zmod_n (by omega) (by omega) (by omega), Option.bind_some, c_over h3 hc3 hn hj, Option.bind_some, c_over h hc m1 m2, Option.bind_some, zxb (Nat.mod_lt _ (by omega)) (Nat.mod_lt _ (by omega)), nI_add, nI_1, Nat.add_assoc]
      rfl
    · show f8_differences_20 _ (g + 1) _ _ _ (nI n) (nI e) M = _
      rw [f8_differences_20, h.2.1, if_pos (nI_le (Nat.le_refl _) (by omega)), f8_differences_92, nI_1]
      rfl
  · show f8_differences_5 (f + 1) _ _ _ (nI p) M = _
    rw [f8_differences_5, h.1, if_pos (nI_le (Nat.le_refl _) (by omega))]
    rfl
theorem zdst_b {D : Nat → Nat → Nat} (hD : ∀ a b, D a b ≤ 36) {a b : Nat} {s : zD3s} (h : s.1 ≤ 37) : (zdst D a b s).1 ≤ 37 := by
  have := hD a b
  unfold zdst
  split
  · exact h
  · show D a b ≤ 37
    omega
theorem zdso_b {D : Nat → Nat → Nat} (hD : ∀ a b, D a b ≤ 36) {a : Nat} {s : zD3s} (h : s.1 ≤ 37) : ∀ n, (zfo (zdst D a) 0 s n).1 ≤ 37 := by
  intro n
  induction n with
  | zero => exact h
  | succ n ih => exact zdst_b hD ih
theorem zdsa_b {D : Nat → Nat → Nat} (hD : ∀ a b, D a b ≤ 36) {e : Nat} : ∀ n, (zdsa D e n).1 ≤ 37 := by
  intro n
  induction n with
  | zero => exact Nat.le_refl 37
  | succ n ih =>
    rw [zdsa_s]
    exact zdso_b hD ih e
theorem zdso_lt {D : Nat → Nat → Nat} (hD : ∀ a b, D a b ≤ 36) {a : Nat} {s : zD3s} : ∀ n, 1 ≤ n ∨ s.1 ≤ 36 → (zfo (zdst D a) 0 s n).1 ≤ 36 := by
  intro n
  induction n with
  | zero => exact fun h => h.elim (fun q => absurd q (by omega)) id
  | succ n ih =>
    intro _
    rw [zdso_s, zdst]
    have := hD a n
    by_cases g : (zfo (zdst D a) 0 s n).1 ≤ D a n
    · rw [if_pos g]
      omega
    · rw [if_neg g]
      exact this
theorem zdsa_lt {D : Nat → Nat → Nat} (hD : ∀ a b, D a b ≤ 36) {e : Nat} (he : 1 ≤ e) : ∀ n, 1 ≤ n → (zdsa D e n).1 ≤ 36 := by
  intro n hn
  obtain ⟨m, rfl⟩ : ∃ m, n = m + 1 := ⟨n - 1, by omega⟩
  rw [zdsa_s]
  exact zdso_lt hD e (Or.inl he)
theorem c_differs (h : zWc M 1 p e w) (h3 : zWc M 3 p e u) (hc : zCl p e w) (hc3 : zCl p e u) {P : Option (Int32 × zM) → Prop} (hP : ∀ f, P (f8_differs_77 (f + 1) (nI (zdsa (zdD p e w u) e p).1) (nI (zdsa (zdD p e w u) e p).2.1) (nI (zdsa (zdD p e w u) e p).2.2) (nI p) M)) : P (f8_differs_77 zfuel 37 0 0 0 M) := by
  obtain ⟨h1, h2, h3', h4, h5, h6⟩ := id hc
  have hD : ∀ a b, zdD p e w u a b ≤ 36 := zdD_le h2 h4
  generalize hDe : zdD p e w u = D at hD hP
  refine zloopP (F := fun f a (x : Unit) => f8_differs_77 f (nI (zdsa D e a).1) (nI (zdsa D e a).2.1) (nI (zdsa D e a).2.2) (nI a) M) (I := fun _ _ => True) (P := P) p (by omega) (k0 := 0) (by omega) (fun f a x _ ha _ => Or.inl ⟨(), ?_, trivial⟩) (fun f x _ => hP f) (x := ()) trivial
  show f8_differs_77 (f + 1) _ _ _ (nI a) M = _
  rw [f8_differs_77, h.1, if_neg (nI_ge ha (by omega)), zdsa_s]
  refine zloop0 (F := fun g b => f8_differs_92 (f8_differs_136 (f8_differs_77 f)) g (nI (zfo (zdst D a) 0 (zdsa D e a) b).1) (nI (zfo (zdst D a) 0 (zdsa D e a) b).2.1) (nI (zfo (zdst D a) 0 (zdsa D e a) b).2.2) (nI a) (nI b) M) e (by omega) (fun g b hb => ?_) (fun g => ?_)
  · show f8_differs_92 _ (g + 1) _ _ _ (nI a) (nI b) M = _
    have b1 := zdso_b hD (a := a) (zdsa_b hD (e := e) a) b
    have b2 := hD a b
    rw [f8_differs_92, h.2.1, if_neg (nI_ge hb (by omega)), c_differences h h3 hc hc3 (by omega) (by omega), Option.bind_some, hDe, zdso_s, zdst]
    by_cases g1 : (zfo (zdst D a) 0 (zdsa D e a) b).1 ≤ D a b
    · rw [if_pos (nI_le g1 (by omega)), if_pos g1, f8_differs_130, nI_1]
    · rw [if_neg (nI_ge (by omega) (by omega)), if_neg g1, f8_differs_130, nI_1]
  · show f8_differs_92 _ (g + 1) _ _ _ (nI a) (nI e) M = _
    rw [f8_differs_92, h.2.1, if_pos (nI_le (Nat.le_refl _) (by omega)), f8_differs_136, nI_1]
    rfl
theorem r_its (h : zRr M 41 p e w) (h3 : zRr M 44 p e u) (hc : zCl p e w) (hc3 : zCl p e u) {a b : Nat} (ha : a < 6) (hb : b < 6) {K : Int32 → Int32 → Int32 → Int32 → Int32 → zM → Option (Int32 × zM)} {v2 v3 : Int32} : f9_differs_95 K zfuel v2 v3 (nI a) (nI b) 0 0 M = K v2 v3 (nI a) (nI b) (nI (zdD p e w u a b)) M := by
  obtain ⟨h1, h2, h3', h4, h5, h6⟩ := id hc
  refine zloop0 (F := fun f n => f9_differs_95 K f v2 v3 (nI a) (nI b) (nI (zdd (zdj p e w u a b) e n)) (nI n) M) p (by omega) (fun f n hn => ?_) (fun f => ?_)
  · show f9_differs_95 K (f + 1) _ _ _ _ _ (nI n) M = _
    rw [f9_differs_95, h.1, if_neg (nI_ge hn (by omega))]
    refine zloop0 (F := fun g j => f9_differs_110 (f9_differs_190 (f9_differs_95 K f)) g v2 v3 (nI a) (nI b) (nI (zdd (zdj p e w u a b) e n + zsum (zdj p e w u a b n) j)) (nI n) (nI j) M) e (by omega) (fun g j hj => ?_) (fun g => ?_)
    · show f9_differs_110 _ (g + 1) _ _ _ _ _ (nI n) (nI j) M = _
      have m1 := Nat.mod_lt (n + a) (show 0 < p by omega)
      have m2 := Nat.mod_lt (j + b) (show 0 < e by omega)
      rw [f9_differs_110, h.1, h.2.1, if_neg (nI_ge hj (by omega)), zaI_n (by omega) (by omega), h3.2.2 n hn, Option.bind_some, has_n _ (hc3.lt64 n) j (by omega), Option.bind_some, nI_add, zmod_n (by omega) (by omega) (by omega), Option.bind_some, zaI_n (by omega) (by omega), h.2.2 _ m1, Option.bind_some, nI_add, zmod_n (by omega) (by omega) (by omega), Option.bind_some, has_n _ (hc.lt64 _) _ (by omega), Option.bind_some, zfb (Nat.mod_lt _ (by omega)) (Nat.mod_lt _ (by omega)), Option.bind_some, nI_add, nI_1, Nat.add_assoc]
      rfl
    · show f9_differs_110 _ (g + 1) _ _ _ _ _ (nI n) (nI e) M = _
      rw [f9_differs_110, h.2.1, if_pos (nI_le (Nat.le_refl _) (by omega)), f9_differs_190, nI_1]
      rfl
  · show f9_differs_95 K (f + 1) _ _ _ _ _ (nI p) M = _
    rw [f9_differs_95, h.1, if_pos (nI_le (Nat.le_refl _) (by omega))]
    rfl
def zdv3 (s : zD3s) : Int32 := if s.1 = 37 then 1000000 else nI s.1
def zdas (D : Nat → Nat → Nat) (a b : Nat) : Nat := if a = 0 ∧ b = 0 then 0 else D 0 0
def zdL (s : zD3s) : List Int64 := [(nI s.1).toInt64, (nI s.2.1).toInt64, (nI s.2.2).toInt64]
/-- what holds while the reference looks for the fewest -/
def zdI (x : zM) (p e : Nat) (w u : Nat → Nat) (s : zD3s) : Prop := zRr x 41 p e w ∧ zRr x 44 p e u ∧ (s.1 ≠ 37 → zR9 x (zdL s)) ∧ x.1 39 7 = nI 0
theorem r_df_step {D : Nat → Nat → Nat} (hD : ∀ a b, D a b ≤ 36) {s : zD3s} (hs : s.1 ≤ 37) {a b : Nat} (ha : a < 6) (hb : b < 6) (hx : zdI M p e w u s) {K : Int32 → Int32 → Int32 → Int32 → zM → Option (Int32 × zM)} : ∃ y, f9_differs_196 K (nI (zdas D a b)) (zdv3 s) (nI a) (nI b) (nI (D a b)) M = K (nI (zdas D a (b + 1))) (zdv3 (zdst D a b s)) (nI a) (nI (b + 1)) y ∧ zdI y p e w u (zdst D a b s) := by
  have b2 := hD a b
  have eas : (if nI a + nI b = 0 then nI (D a b) else nI (zdas D a b)) = nI (zdas D a (b + 1)) := by
    rw [nI_add, zdas, zdas, if_neg (show ¬ (a = 0 ∧ b + 1 = 0) by omega)]
    by_cases g : a = 0 ∧ b = 0
    · rw [g.1, g.2, if_pos (by decide)]
    · rw [if_neg (nI_ne0 (by omega) (by omega)), if_neg g]
  rw [f9_differs_196, eas]
  have e3 : zdv3 s ≤ nI (D a b) ↔ s.1 ≤ D a b := by
    rw [zdv3]
    by_cases g : s.1 = 37
    · rw [if_pos g]
      constructor
      · intro q
        exact absurd q (nI_ge (b := 1000000) (by omega) (by omega))
      · intro q
        omega
    · rw [if_neg g]
      constructor
      · intro q
        by_cases g2 : s.1 ≤ D a b
        · exact g2
        · exact absurd q (nI_ge (by omega) (by omega))
      · exact fun q => nI_le q (by omega)
  by_cases g : s.1 ≤ D a b
  · rw [if_pos (e3.mpr g), f9_differs_246, nI_1, zdst, if_pos g]
    exact ⟨M, rfl, hx⟩
  · have ev : zdv3 (D a b, a, b) = nI (D a b) := by
      rw [zdv3, if_neg (show ¬ D a b = 37 by omega)]
    obtain ⟨M1, y1, z1⟩ := r_tell (nI (D a b)).toInt64 M
    obtain ⟨M2, y2, z2⟩ := z1.add (by simp) (nI a).toInt64
    obtain ⟨M3, y3, z3⟩ := z2.add (by simp) (nI b).toInt64
    have o := (zOut.rf.si 39 1 0 (Or.inr ⟨rfl, by simp⟩) : zOut [] [1] M (zsi M 39 1 0)).trans ((o_X9_enters y1).trans ((o_X9_enters y2).trans (o_X9_enters y3)))
    rw [if_neg (fun q => g (e3.mp q)), y1, Option.bind_some, y2, Option.bind_some, y3, Option.bind_some, f9_differs_246, nI_1, zdst, if_neg g, ev]
    exact ⟨M3, rfl, hx.1.to (o.1 41 (by simp) (by simp)).1, hx.2.1.to (o.1 44 (by simp) (by simp)).1, fun _ => z3, by rw [o.2 7 (by simp) (by simp)]; exact hx.2.2.2⟩
theorem r_differs (h : zRr M 41 p e w) (h3 : zRr M 44 p e u) (hc : zCl p e w) (hc3 : zCl p e u) (h70 : M.1 39 7 = nI 0) : ∃ M', f9_differs_62 zfuel 0 1000000 0 M = some (nI (zdD p e w u 0 0), M') ∧ zR9 M' (zdL (zdsa (zdD p e w u) e p)) ∧ M'.1 39 7 = nI 0 := by
  obtain ⟨h1, h2, h3', h4, h5, h6⟩ := id hc
  have hD : ∀ a b, zdD p e w u a b ≤ 36 := zdD_le h2 h4
  have hl := zdsa_lt hD h3' p h1
  have hits : ∀ (x : zM) (a b : Nat) (K : Int32 → Int32 → Int32 → Int32 → Int32 → zM → Option (Int32 × zM)) (v2 v3 : Int32), zRr x 41 p e w → zRr x 44 p e u → a < 6 → b < 6 → f9_differs_95 K zfuel v2 v3 (nI a) (nI b) 0 0 x = K v2 v3 (nI a) (nI b) (nI (zdD p e w u a b)) x := fun x a b K v2 v3 q1 q2 q3 q4 => r_its q1 q2 hc hc3 q3 q4
  generalize zdD p e w u = D at hD hl hits
  refine zloopP (F := fun f a x => f9_differs_62 f (nI (zdas D a 0)) (zdv3 (zdsa D e a)) (nI a) x) (I := fun a x => zdI x p e w u (zdsa D e a)) (P := fun o => ∃ M', o = some (nI (D 0 0), M') ∧ zR9 M' (zdL (zdsa D e p)) ∧ M'.1 39 7 = nI 0) p (by omega) (k0 := 0) (by omega) (fun f a x _ ha hx => Or.inl ?_) (fun f x hx => ⟨x, ?_, hx.2.2.1 (by omega), hx.2.2.2⟩) (x := M) ⟨h, h3, fun q => absurd rfl q, h70⟩
  · have inn : ∃ y, f9_differs_77 (f9_differs_252 (f9_differs_62 f)) zfuel (nI (zdas D a 0)) (zdv3 (zdsa D e a)) (nI a) (nI 0) x = f9_differs_62 f (nI (zdas D (a + 1) 0)) (zdv3 (zdsa D e (a + 1))) (nI (a + 1)) y ∧ zdI y p e w u (zdsa D e (a + 1)) := by
      rw [zdsa_s]
      refine zloopP (F := fun g b x => f9_differs_77 (f9_differs_252 (f9_differs_62 f)) g (nI (zdas D a b)) (zdv3 (zfo (zdst D a) 0 (zdsa D e a) b)) (nI a) (nI b) x) (I := fun b x => zdI x p e w u (zfo (zdst D a) 0 (zdsa D e a) b)) (P := fun o => ∃ y, o = f9_differs_62 f (nI (zdas D (a + 1) 0)) (zdv3 (zdso D e a (zdsa D e a))) (nI (a + 1)) y ∧ zdI y p e w u (zdso D e a (zdsa D e a))) e (by omega) (k0 := 0) (by omega) (fun g b x _ hb hx => Or.inl ?_) (fun g x hx => ⟨x, ?_, hx⟩) (x := x) hx
      · obtain ⟨y, y1, y2⟩ := r_df_step (K := f9_differs_77 (f9_differs_252 (f9_differs_62 f)) g) hD (zdso_b hD (a := a) (zdsa_b hD (e := e) a) b) (show a < 6 by omega) (show b < 6 by omega) hx
        rw [← zdso_s] at y1 y2
        refine ⟨y, ?_, y2⟩
        show f9_differs_77 _ (g + 1) _ _ (nI a) (nI b) x = _
        rw [f9_differs_77, hx.1.2.1, if_neg (nI_ge hb (by omega)), hits _ _ _ _ _ _ hx.1 hx.2.1 (by omega) (by omega), y1]
      · show f9_differs_77 _ (g + 1) _ _ (nI a) (nI e) x = _
        have ea : zdas D a e = zdas D (a + 1) 0 := by
          rw [zdas, zdas, if_neg (by omega), if_neg (by omega)]
        rw [f9_differs_77, hx.1.2.1, if_pos (nI_le (Nat.le_refl _) (by omega)), f9_differs_252, nI_1, ea]
        rfl
    obtain ⟨y, y1, y2⟩ := inn
    refine ⟨y, ?_, y2⟩
    show f9_differs_62 (f + 1) _ _ (nI a) x = _
    rw [f9_differs_62, hx.1.1, if_neg (nI_ge ha (by omega))]
    exact y1
  · show f9_differs_62 (f + 1) _ _ (nI p) x = _
    rw [f9_differs_62, hx.1.1, if_pos (nI_le (Nat.le_refl _) (by omega)), zdas, if_neg (by omega)]
end DF
theorem zP_differs_ok : zP_differs zInv := by
  intro c M hc h
  obtain ⟨n, t, hB⟩ := h.2.1
  obtain ⟨p, e, w, hA⟩ := h.1
  obtain ⟨hc1, hW, hR, hN⟩ := id hA
  have hp := hc1.1
  have hp6 := hc1.2.1
  have he := hc1.2.2.1
  have he6 := hc1.2.2.2.1
  rcases cl_pair n hB.1 t with ⟨s, hs, a8, a9⟩ | ⟨p2, e2, u, hC, a8, a9⟩
  · obtain ⟨M1, y8⟩ := a8 M (iBn_tx hB)
    obtain ⟨X, y9, y7⟩ := a9 _ (ztxr hB y8)
    have h8 : f8_differs M = some (-1 - nI s, zsi M1 7 1 0) := by
      rw [f8_differs, y8, Option.bind_some]
      simp only []
      rw [if_neg (nI_nm1 (by omega))]
    have h9 : f9_differs (zsi M1 7 1 0) = some (-1 - nI s, X) := by
      rw [f9_differs, y9, Option.bind_some]
      simp only []
      rw [if_neg (Int32.not_le.mpr (nI_neg1 (by omega)))]
    exact ⟨_, _, _, h8, h9, ztext h y8 y9 y7⟩
  · have hq := hC.2.1
    have hq' := hC.2.2.2.1
    obtain ⟨M1, y8, w8⟩ := a8 M (iBn_tx hB)
    have oM := (o_X7_readFrom y8).trans (zOut.rf.si 7 1 0 (Or.inl (by simp)) : zOut [7] [] M1 (zsi M1 7 1 0))
    have hW1 : zWc (zsi M1 7 1 0) 1 p e w := hW.to (oM.1 1 (by simp) (by simp)).1 (oM.1 2 (by simp) (by simp)).1
    have hW3 : zWS (zsi M1 7 1 0) 3 (p2, e2, u, 0) := w8.to (zsi_ne (by omega)) (zsi_ne (by omega))
    by_cases g : p2 = p ∧ e2 = e
    · obtain ⟨rfl, rfl⟩ := g
      have key : ∃ M2, f8_differs_77 zfuel 37 0 0 0 (zsi M1 7 1 0) = some (nI (zdD p2 e2 w u 0 0), M2) ∧ zR8 M2 (zdL (zdsa (zdD p2 e2 w u) e2 p2)) := by
        refine c_differs hW1 hW3.1 hc1 hC (P := fun o => ∃ M2, o = some (nI (zdD p2 e2 w u 0 0), M2) ∧ zR8 M2 (zdL (zdsa (zdD p2 e2 w u) e2 p2))) (fun f => ?_)
        obtain ⟨N1, k1, k2⟩ := c_tell2 (nI (zdsa (zdD p2 e2 w u) e2 p2).1).toInt64 (nI (zdsa (zdD p2 e2 w u) e2 p2).2.1).toInt64 (zsi M1 7 1 0)
        obtain ⟨N2, k3, k4⟩ := k2.add (by simp) (nI (zdsa (zdD p2 e2 w u) e2 p2).2.2).toInt64
        have oN := (o_X3_tell_ k1).trans (o_X3_add k3)
        have d0 : f8_differences 0 0 N2 = some (nI (zdD p2 e2 w u 0 0)) := c_differences (hW1.to (oN.1 1 (by simp) (by simp)).1 (oN.1 2 (by simp) (by simp)).1) (hW3.1.to (oN.1 3 (by simp) (by simp)).1 (oN.1 4 (by simp) (by simp)).1) hc1 hC (a := 0) (b := 0) (by omega) (by omega)
        refine ⟨N2, ?_, k4⟩
        rw [f8_differs_77, hW1.1, if_pos (nI_le (Nat.le_refl _) (by omega)), k1, Option.bind_some, k3, Option.bind_some, d0, Option.bind_some]
      obtain ⟨M2, k1, k2⟩ := key
      have h8 : f8_differs M = some (nI (zdD p2 e2 w u 0 0), M2) := by
        rw [f8_differs, y8, Option.bind_some]
        simp only []
        rw [if_pos trivial, hW3.1.1, hW3.1.2.1, hW1.1, hW1.2.1, if_pos rfl, if_pos rfl, k1]
      have o8 := o_X8_differs h8
      have tr : zTr (zsi M2 39 0 0) n t := by
        refine (iBn_tr hB).to ?_ ?_
        · rw [zsi1, if_neg (by decide), o8.2 7 (by simp) (by simp)]
        · rw [zsi_ne (by omega), (o8.1 43 (by simp) (by simp)).1]
      obtain ⟨X, y9, r9, y7⟩ := a9 _ tr
      have oX := (zOut.rf.si 39 0 0 (Or.inr ⟨rfl, by simp⟩) : zOut [] [0] M2 (zsi M2 39 0 0)).trans (o_X9_readsCloth y9)
      have hR1 : zRr X 41 p2 e2 w := hR.to (by rw [(oX.1 41 (by simp) (by simp)).1, (o8.1 41 (by simp) (by simp)).1])
      obtain ⟨X2, q1, q2, q7⟩ := r_differs hR1 r9 hc1 hC y7
      have h9 : f9_differs M2 = some (nI (zdD p2 e2 w u 0 0), X2) := by
        rw [f9_differs, y9, Option.bind_some]
        simp only []
        rw [if_pos (by decide), r9.1, r9.2.1, hR1.1, hR1.2.1, if_pos rfl, if_pos rfl, q1]
      have o9 := o_X9_differs h9
      refine ⟨_, _, _, h8, h9, zInv_to h (o8.trans o9) (Or.inl rfl) (Or.inr ⟨0, fun _ => 0, by omega, ?_, ?_, fun i hi => absurd hi (by omega)⟩) (Or.inr ⟨_, zR8_to (o9.same rfl) k2, q2⟩) (Or.inl rfl) (Or.inl rfl) (Or.inl rfl) (Or.inl rfl) (Or.inl rfl)⟩
      · rw [(o9.1 7 (by simp) (by simp)).1]
        have : M2.1 7 = (zsi M1 7 1 0).1 7 := by
          refine c_differs hW1 hW3.1 hc1 hC (P := fun o => ∀ r M2, o = some (r, M2) → M2.1 7 = (zsi M1 7 1 0).1 7) (fun f r N hN => ?_) _ _ k1
          rw [f8_differs_77, hW1.1, if_pos (nI_le (Nat.le_refl _) (by omega))] at hN
          obtain ⟨N1, k1, hN⟩ := z_bind hN
          obtain ⟨N2, k3, hN⟩ := z_bind hN
          obtain ⟨v, k5, hN⟩ := z_bind hN
          have e2 : N2 = N := congrArg Prod.snd (Option.some.inj hN)
          rw [← e2]
          exact (((o_X3_tell_ k1).trans (o_X3_add k3)).1 7 (by simp) (by simp)).1
        rw [this]
        simp [zsi1, nI_0]
      · exact q7
    · obtain ⟨X, y9, r9, y7⟩ := a9 _ (ztxr hB y8)
      have oX := (zOut.rf.si 39 0 0 (Or.inr ⟨rfl, by simp⟩) : zOut [] [0] (zsi M1 7 1 0) (zsi (zsi M1 7 1 0) 39 0 0)).trans (o_X9_readsCloth y9)
      have hR1 : zRr X 41 p e w := hR.to (by rw [(oX.1 41 (by simp) (by simp)).1, (oM.1 41 (by simp) (by simp)).1])
      have h8 : f8_differs M = some (-100, zsi M1 7 1 0) := by
        rw [f8_differs, y8, Option.bind_some]
        simp only []
        rw [if_pos trivial, hW3.1.1, hW3.1.2.1, hW1.1, hW1.2.1]
        by_cases g1 : p2 = p
        · rw [if_pos (by rw [g1]), if_neg (nI_ne (fun q => g ⟨g1, q⟩) (by omega) (by omega))]
        · rw [if_neg (nI_ne g1 (by omega) (by omega))]
      have h9 : f9_differs (zsi M1 7 1 0) = some (-100, X) := by
        rw [f9_differs, y9, Option.bind_some]
        simp only []
        rw [if_pos (by decide), r9.1, r9.2.1, hR1.1, hR1.2.1]
        by_cases g1 : p2 = p
        · rw [if_pos (by rw [g1]), if_neg (nI_ne (fun q => g ⟨g1, q⟩) (by omega) (by omega))]
        · rw [if_neg (nI_ne g1 (by omega) (by omega))]
      exact ⟨_, _, _, h8, h9, ztext h y8 y9 y7⟩
