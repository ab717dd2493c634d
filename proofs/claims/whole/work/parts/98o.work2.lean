/-! work: the call -/
theorem zwA_lt (t : Nat → Nat) : ∀ i d, zwA t i < zwA t (i + d + 1) := by
  intro i d
  induction d with
  | zero =>
    show _ < zwA t i + 1 + _
    omega
  | succ d ih =>
    have : zwA t (i + (d + 1) + 1) = zwA t (i + (d + 1)) + 1 + zll (zid (t (zwA t (i + (d + 1))))) := rfl
    rw [this, show i + (d + 1) = i + d + 1 by omega]
    omega
theorem zwA_inj {t : Nat → Nat} {i j : Nat} (h : zwA t i = zwA t j) : i = j := by
  by_cases g : i < j
  · have := zwA_lt t i (j - i - 1)
    rw [show i + (j - i - 1) + 1 = j by omega] at this
    omega
  · by_cases g2 : j < i
    · have := zwA_lt t j (i - j - 1)
      rw [show j + (i - j - 1) + 1 = i by omega] at this
      omega
    · omega
section WC
variable {M X : zM} {n : Nat} {t : Nat → Nat}
/-- the class's reading -/
theorem wk_class (hM : zTx M n t) (hX : iBn M n t) : (f8_workFault M = some (-1) ∧ n ≤ 60 ∧ ∃ K, (∀ i, i < K → zgA t n (zwA t i)) ∧ zwA t K = n ∧ K ≤ 30) ∨ ∃ s, s ≤ 80 ∧ f8_workFault M = some (nI s) := by
  have hL : zwL n ≤ 60 ∧ zwL n ≤ n := by unfold zwL; omega
  have hn := hM.1
  have hX0 : zwI (zsi (zsi (zsi (zsi M 39 9 (nI (zwL n))) 39 8 (nI 0)) 39 7 (nI 0)) 39 24 (nI 0)) n 0 t := by
    refine ⟨fun i hi => absurd hi (by omega), by omega, ⟨by omega, by show 0 ≤ _; omega, by simp [zsi1], by simp [zsi1, zwA], fun i hi => ?_, by simp [zsi1]⟩, by simp [zsi1], fun i hi => absurd hi (by omega)⟩
    have := hX.2.2.2 i (by omega)
    exact ⟨this.1, by simp [zsi1, this.2.2]⟩
  refine wk_loop hM hX0 (P := fun _ => (f8_workFault M = some (-1) ∧ n ≤ 60 ∧ ∃ K, (∀ i, i < K → zgA t n (zwA t i)) ∧ zwA t K = n ∧ K ≤ 30) ∨ ∃ s, s ≤ 80 ∧ f8_workFault M = some (nI s)) (fun K Y h1 h2 _ h3 => ?_) (fun q Y h1 _ h3 => ?_)
  · by_cases g : 60 < n
    · rw [if_pos g] at h3
      exact Or.inr ⟨60, by omega, h3⟩
    · rw [if_neg g] at h3
      have e : zwL n = n := by unfold zwL; omega
      refine Or.inl ⟨h3, by omega, K, h1.1, by rw [h2, e], ?_⟩
      have := h1.2.1
      omega
  · have hq := h1.2.1
    by_cases g : q = zwL n
    · rw [if_pos g] at h3
      by_cases g2 : 60 < n
      · rw [if_pos g2] at h3
        exact Or.inr ⟨60, by omega, h3⟩
      · rw [if_neg g2] at h3
        exact Or.inr ⟨n, hn, h3⟩
    · rw [if_neg g] at h3
      exact Or.inr ⟨q, by omega, h3⟩
theorem wk_start (hX : zTr X n t) : ∃ Y, f9_work X = f9_work_19 zfuel (nI n) 1 Y ∧ zwI Y n 0 t ∧ zOut [] [0, 7, 8, 9, 10, 24] X Y := by
  have hX0 : zTr (zsi X 39 0 0) n t := hX.to (by simp [zsi1]) (by rw [zsi_ne (by omega)])
  obtain ⟨Y, y1, y2, y3⟩ := r_begins hX0 (m := 60) (by omega)
  have o := (zOut.rf.si 39 0 0 (Or.inr ⟨rfl, by simp⟩) : zOut [] [0, 7, 8, 9, 10, 24] X (zsi X 39 0 0)).call (o_X9_begins y1) (by simp) (by simp)
  refine ⟨zsi Y 39 24 0, ?_, ⟨fun i hi => absurd hi (by omega), by omega, y2.to (by simp [zsi1]) (by simp [zsi1]) (by rw [zsi_ne (by omega)]) (by simp [zsi1]), by simp [zsi1, nI_0], fun i hi => absurd hi (by omega)⟩, o.si 39 24 0 (Or.inr ⟨rfl, by simp⟩)⟩
  rw [f9_work, show (60 : Int32) = nI 60 from rfl, y1, Option.bind_some]
theorem wk_ok (hM : zTx M n t) (hX : zTr X n t) (h60 : n ≤ 60) (hf : f8_workFault M = some (-1)) {P : Option (Int32 × zM) → Prop} (hP : ∀ K Y, zwI Y n K t → zwA t K = n → zOut [50, 51, 52, 53] [0, 7, 8, 9, 10, 24] X Y → P (f9_work_42 (nI n) 1 Y)) : P (f9_work X) := by
  obtain ⟨Y0, y1, y2, y3⟩ := wk_start hX
  have e : zwL n = n := by unfold zwL; omega
  rw [y1]
  refine wk_loop hM y2 (fun K Y h1 h2 h4 _ => hP K Y h1 (by rw [h2, e]) ((y3.mono (by simp) (fun _ q => q) : zOut [50, 51, 52, 53] [0, 7, 8, 9, 10, 24] X Y0).call h4 (fun _ q => q) (by simp))) (fun q Y h1 _ h3 => ?_)
  exfalso
  rw [hf] at h3
  have hn := hM.1
  have hq := h1.2.1
  have h3' := Option.some.inj h3
  by_cases g : q = zwL n
  · rw [if_pos g, if_neg (by omega)] at h3'
    exact nI_nm1 (s := n) (by omega) h3'.symm
  · rw [if_neg g] at h3'
    exact nI_nm1 (s := q) (by omega) h3'.symm
theorem wk_fault (hM : zTx M n t) (hX : zTr X n t) {s : Nat} (hs : s ≤ 80) (hf : f8_workFault M = some (nI s)) : ∃ Y, f9_work X = some (-1 - nI s, Y) ∧ Y.1 39 7 = nI 0 ∧ zOut [50, 51, 52, 53] [0, 7, 8, 9, 10, 24] X Y := by
  obtain ⟨Y0, y1, y2, y3⟩ := wk_start hX
  have hn := hM.1
  have hL : zwL n ≤ 60 ∧ zwL n ≤ n := by unfold zwL; omega
  have neg : ∀ q, q ≤ 80 → ¬ 0 ≤ -1 - nI q := fun q hq => Int32.not_le.mpr (nI_neg1 (by omega))
  rw [y1]
  refine wk_loop hM y2 (P := fun o => ∃ Y, o = some (-1 - nI s, Y) ∧ Y.1 39 7 = nI 0 ∧ zOut [50, 51, 52, 53] [0, 7, 8, 9, 10, 24] X Y) (fun K Y h1 h2 h4 h3 => ?_) (fun q Y h1 h4 h3 => ?_)
  · rw [hf] at h3
    have h3' := Option.some.inj h3
    by_cases g : 60 < n
    · rw [if_pos g, nI_eq (by omega) (by omega)] at h3'
      have q := r_faultOf (m := 60) hn (by omega) h1.2.2.1 true
      rw [if_pos ⟨rfl, h2⟩, if_neg (by omega)] at q
      refine ⟨Y, ?_, h1.2.2.1.2.2.2.2.2, (y3.mono (by simp) (fun _ q => q) : zOut [50, 51, 52, 53] [0, 7, 8, 9, 10, 24] X Y0).call h4 (fun _ q => q) (by simp)⟩
      rw [f9_work_42, show f9_faultOf (nI n) 60 1 Y = some (-1 - nI 60) from q, Option.bind_some, if_neg (neg 60 (by omega)), h3']
    · rw [if_neg g] at h3'
      exact absurd h3' (nI_nm1 (by omega))
  · rw [hf] at h3
    have h3' := Option.some.inj h3
    have hq := h1.2.1
    have r := r_faultOf (m := 60) hn (by omega) h1 false
    rw [if_neg (fun z => absurd z.1 (by decide))] at r
    refine ⟨Y, ?_, h1.2.2.2.2.2, (y3.mono (by simp) (fun _ q => q) : zOut [50, 51, 52, 53] [0, 7, 8, 9, 10, 24] X Y0).call h4 (fun _ q => q) (by simp)⟩
    rw [f9_work_42, show f9_faultOf (nI n) 60 0 Y = _ from r, Option.bind_some]
    by_cases g : q = zwL n
    · rw [if_pos g] at h3'
      by_cases g2 : 60 < n
      · have eq60 : q = 60 := by rw [g]; unfold zwL; omega
        rw [if_pos g2, nI_eq (by omega) (by omega)] at h3'
        rw [if_pos (show 60 < n ∧ 60 ≤ q from ⟨g2, by omega⟩), if_neg (neg 60 (by omega)), h3']
      · have eqn : q = n := by rw [g]; unfold zwL; omega
        rw [if_neg g2, nI_eq (by omega) (by omega)] at h3'
        rw [if_neg (show ¬ (60 < n ∧ 60 ≤ q) from fun z => g2 z.1), if_neg (neg q (by omega)), eqn, h3']
    · rw [if_neg g, nI_eq (by omega) (by omega)] at h3'
      rw [if_neg (show ¬ (60 < n ∧ 60 ≤ q) from fun z => by unfold zwL at g hq; omega), if_neg (neg q (by omega)), h3']
end WC
/-! the acts, one after the other -/
noncomputable def zwo1 (cr : List Nat) (t : Nat → Nat) (S : zS4) (a : Nat) : Option zS4 := zwkk cr S (zjx (t a)) (t (a + 1) - 48) (t (a + 2) - 48) (10 * (t (a + 3) - 48) + (t (a + 4) - 48))
noncomputable def zwss (cr : List Nat) (t : Nat → Nat) (S : zS4) : Nat → zS4
  | 0 => S
  | k + 1 => (zwo1 cr t (zwss cr t S k) (zwA t k)).getD (zwss cr t S k)
section WE
variable {M X : zM} {S : zS4} {cr : List Nat} {n K D : Nat} {t : Nat → Nat}
theorem zgA_kd {a : Nat} (h : zgA t n a) : zjx (t a) < 5 ∧ (zjx (t a) = 1 ∨ zjx (t a) = 2 ∨ zjx (t a) = 4 → t (a + 1) - 48 < 2) := by
  obtain ⟨j, h1, h2, h3, h4⟩ := h
  have hpos : 0 < zjd j := by unfold zjd; split <;> (try split) <;> omega
  rw [h2, zjx_e j h1]
  refine ⟨h1, fun q => ?_⟩
  have := (h4 0 hpos).2
  rw [Nat.add_zero] at this
  unfold zjb at this
  rw [if_pos ⟨rfl, q⟩] at this
  omega
theorem zwss_C (hc : zSC S) (hg : ∀ i, i < K → zgA t n (zwA t i)) : ∀ k, k ≤ K → zSC (zwss cr t S k) := by
  intro k
  induction k with
  | zero => exact fun _ => hc
  | succ k ih =>
    intro hk
    have q := ih (by omega)
    obtain ⟨g1, g2⟩ := zgA_kd (hg k (by omega))
    rw [zwss]
    cases r : zwo1 cr t (zwss cr t S k) (zwA t k) with
    | none => exact q
    | some S' => exact zwkk_C q g2 g1 r
theorem c_exec (hT : zTx M n t) (hW : zWS M 1 S) (hc : zSC S) (hcr : zCc M 11 cr) (hg : ∀ i, i < K → zgA t n (zwA t i)) (hK : zwA t K = n) (hDK : D ≤ K) (hD : ∀ i, i < D → zwo1 cr t (zwss cr t S i) (zwA t i) ≠ none) (hE : D = K ∨ zwo1 cr t (zwss cr t S D) (zwA t D) = none) (hK3 : K ≤ 30) {v2 : Int64} {v4 : Int32} : ∃ x, f8_work_48 zfuel v2 v4 0 0 0 M = f8_work_108 v2 v4 (nI D) (nI (if D = K then 0 else 1)) x ∧ zWS x 1 (zwss cr t S D) ∧ zOut [1, 10, 15, 2, 9] [] M x := by
  have hn := hT.1
  have hlt : ∀ i, i < K → zwA t i < n := by
    intro i hi
    have := zwA_lt t i (K - i - 1)
    rw [show i + (K - i - 1) + 1 = K by omega, hK] at this
    exact this
  refine zloopG (F := fun f k x => f8_work_48 (f + 1) v2 v4 (nI k) 0 (nI (zwA t k)) x) (I := fun k x => zWS x 1 (zwss cr t S k) ∧ zOut [1, 10, 15, 2, 9] [] M x) (P := fun o => ∃ x, o = f8_work_108 v2 v4 (nI D) (nI (if D = K then 0 else 1)) x ∧ zWS x 1 (zwss cr t S D) ∧ zOut [1, 10, 15, 2, 9] [] M x) D 4999 (by omega) (k0 := 0) (by omega) (fun f k x _ hk hx => Or.inl ?_) (fun f x hx => ?_) (x := M) ⟨hW, zOut.rf⟩
  · obtain ⟨x1, x2⟩ := hx
    have xT := hT.to (x2.1 7 (by simp) (by simp)).1 (x2.1 8 (by simp) (by simp)).1
    have xcr := hcr.to (x2.1 11 (by simp) (by simp)).1 (x2.1 12 (by simp) (by simp)).1
    have hgk := hg k (by omega)
    have hl := hlt k (by omega)
    obtain ⟨r, y, y1, y2⟩ := c_actAt xT x1 (zwss_C hc hg k (by omega)) xcr hgk
    have oy := o_X8_actAt y1
    have yT := xT.to (oy.1 7 (by simp) (by simp)).1 (oy.1 8 (by simp) (by simp)).1
    have htl := (hT.2.2 _ hl).1
    obtain ⟨z1, z2⟩ := zid_e _ htl
    obtain ⟨z3, z4, -⟩ := zll_e _ z2
    rcases y2 with ⟨S', s1, s2, s3⟩ | ⟨s1, -, -⟩
    · have es : zwss cr t S (k + 1) = S' := by
        rw [zwss, show zwo1 cr t (zwss cr t S k) (zwA t k) = some S' from s1]
        rfl
      refine ⟨y, ?_, by rw [es]; exact s3, x2.call oy (fun _ q => q) (fun _ q => q)⟩
      show f8_work_48 (f + 1 + 1) v2 v4 (nI k) 0 (nI (zwA t k)) x = f8_work_48 (f + 1) v2 v4 (nI (k + 1)) 0 (nI (zwA t (k + 1))) y
      rw [f8_work_48, xT.2.1, if_neg (nI_ge hl (by omega)), if_pos rfl, y1, Option.bind_some]
      simp only []
      rw [if_pos s2, f8_work_83, c_at yT hl, Option.bind_some, z1, Option.bind_some, z3, Option.bind_some, show (1 : Int32) = nI 1 from rfl, nI_add, nI_add, nI_add, show zwA t k + (1 + zll (zid (t (zwA t k)))) = zwA t (k + 1) by rw [zwA]; omega]
    · exact absurd s1 (hD k hk)
  · obtain ⟨x1, x2⟩ := hx
    have xT := hT.to (x2.1 7 (by simp) (by simp)).1 (x2.1 8 (by simp) (by simp)).1
    by_cases g : D = K
    · refine ⟨x, ?_, x1, x2⟩
      show f8_work_48 (f + 1 + 1) v2 v4 (nI D) 0 (nI (zwA t D)) x = _
      rw [f8_work_48, xT.2.1, g, hK, if_pos (nI_le (Nat.le_refl _) (by omega)), if_pos rfl]
      rfl
    · have xcr := hcr.to (x2.1 11 (by simp) (by simp)).1 (x2.1 12 (by simp) (by simp)).1
      have hgk := hg D (by omega)
      have hl := hlt D (by omega)
      obtain ⟨r, y, y1, y2⟩ := c_actAt xT x1 (zwss_C hc hg D hDK) xcr hgk
      have oy := o_X8_actAt y1
      have yT := xT.to (oy.1 7 (by simp) (by simp)).1 (oy.1 8 (by simp) (by simp)).1
      have htl := (hT.2.2 _ hl).1
      obtain ⟨z1, z2⟩ := zid_e _ htl
      obtain ⟨z3, z4, -⟩ := zll_e _ z2
      have hnone := hE.resolve_left g
      rcases y2 with ⟨S', s1, s2, s3⟩ | ⟨s1, s2, s3⟩
      · rw [show zwo1 cr t (zwss cr t S D) (zwA t D) = some S' from s1] at hnone
        cases hnone
      · refine ⟨y, ?_, s3, x2.call oy (fun _ q => q) (fun _ q => q)⟩
        show f8_work_48 (f + 1 + 1) v2 v4 (nI D) 0 (nI (zwA t D)) x = _
        rw [f8_work_48, xT.2.1, if_neg (nI_ge hl (by omega)), if_pos rfl, y1, Option.bind_some]
        simp only []
        rw [if_neg (Int32.not_le.mpr s2), f8_work_83, c_at yT hl, Option.bind_some, z1, Option.bind_some, z3, Option.bind_some, f8_work_48, if_neg g]
        by_cases g2 : y.1 7 1 ≤ nI (zwA t D) + (1 + nI (zll (zid (t (zwA t D)))))
        · rw [if_pos g2]
          rfl
        · rw [if_neg g2, if_neg (by decide)]
          rfl
theorem r_exec (hR : zRS X 41 S) (hc : zSC S) (hcr : zCr X cr) (hg : ∀ i, i < K → zgA t n (zwA t i)) (hd : ∀ i, i < K → zad2 X i (zjx (t (zwA t i))) t (zwA t i + 1)) (h24 : X.1 39 24 = nI K) (hDK : D ≤ K) (hD : ∀ i, i < D → zwo1 cr t (zwss cr t S i) (zwA t i) ≠ none) (hE : D = K ∨ zwo1 cr t (zwss cr t S D) (zwA t D) = none) (hK3 : K ≤ 30) : ∃ x, f9_work_64 zfuel 0 X = f9_work_88 (nI D) x ∧ zRS x 41 (zwss cr t S D) ∧ zOut [41, 42, 47, 48] [] X x := by
  have act : ∀ k (x : zM), k < K → zRS x 41 (zwss cr t S k) → zOut [41, 42, 47, 48] [] X x → ∃ r y, f9_does (nI k) x = some (r, y) ∧ zdone9 (zwss cr t S k) (zwo1 cr t (zwss cr t S k) (zwA t k)) r y := by
    intro k x hk x1 x2
    obtain ⟨j, h1, h2, h3, h4⟩ := hg k hk
    have hd' : zad2 x k j t (zwA t k + 1) := by
      have q := hd k hk
      rw [h2, zjx_e j h1] at q
      simp only [zad2, (x2.1 50 (by simp) (by simp)).1, (x2.1 51 (by simp) (by simp)).1, (x2.1 52 (by simp) (by simp)).1, (x2.1 53 (by simp) (by simp)).1]
      exact q
    obtain ⟨r, y, y1, y2⟩ := r_does x1 (zwss_C hc hg k (by omega)) (hcr.to (x2.2 14 (by simp) (by simp)) (x2.1 45 (by simp) (by simp)).1) (show k < 60 by omega) h1 hd' h4
    refine ⟨r, y, y1, ?_⟩
    unfold zwo1
    rw [h2, zjx_e j h1]
    exact y2
  refine zloopP (F := fun f k x => f9_work_64 f (nI k) x) (I := fun k x => zRS x 41 (zwss cr t S k) ∧ zOut [41, 42, 47, 48] [] X x) (P := fun o => ∃ x, o = f9_work_88 (nI D) x ∧ zRS x 41 (zwss cr t S D) ∧ zOut [41, 42, 47, 48] [] X x) D (by omega) (k0 := 0) (by omega) (fun f k x _ hk hx => Or.inl ?_) (fun f x hx => ?_) (x := X) ⟨hR, zOut.rf⟩
  · obtain ⟨x1, x2⟩ := hx
    obtain ⟨r, y, y1, y2⟩ := act k x (by omega) x1 x2
    have oy := o_X9_does y1
    rcases y2 with ⟨S', s1, s2, s3⟩ | ⟨s1, -, -⟩
    · have es : zwss cr t S (k + 1) = S' := by
        rw [zwss, s1]
        rfl
      refine ⟨y, ?_, by rw [es]; exact s3, x2.call oy (fun _ q => q) (fun _ q => q)⟩
      show f9_work_64 (f + 1) (nI k) x = _
      rw [f9_work_64, x2.2 24 (by simp) (by simp), h24, if_neg (nI_ge (by omega) (by omega)), y1, Option.bind_some, s2]
      simp only []
      rw [if_neg (by decide), nI_1]
    · exact absurd s1 (hD k hk)
  · obtain ⟨x1, x2⟩ := hx
    by_cases g : D = K
    · refine ⟨x, ?_, x1, x2⟩
      show f9_work_64 (f + 1) (nI D) x = _
      rw [f9_work_64, x2.2 24 (by simp) (by simp), h24, g, if_pos (nI_le (Nat.le_refl _) (by omega))]
    · obtain ⟨r, y, y1, y2⟩ := act D x (by omega) x1 x2
      have oy := o_X9_does y1
      have hnone := hE.resolve_left g
      rcases y2 with ⟨S', s1, s2, s3⟩ | ⟨s1, s2, s3⟩
      · rw [s1] at hnone
        cases hnone
      · refine ⟨y, ?_, s3, x2.call oy (fun _ q => q) (fun _ q => q)⟩
        show f9_work_64 (f + 1) (nI D) x = _
        rw [f9_work_64, x2.2 24 (by simp) (by simp), h24, if_neg (nI_ge (by omega) (by omega)), y1, Option.bind_some, s2]
        simp only []
        rw [if_pos trivial]
theorem zD_ex (cr : List Nat) (t : Nat → Nat) (S : zS4) (K : Nat) : ∃ D, D ≤ K ∧ (∀ i, i < D → zwo1 cr t (zwss cr t S i) (zwA t i) ≠ none) ∧ (D = K ∨ zwo1 cr t (zwss cr t S D) (zwA t D) = none) := by
  by_cases ex : ∃ i, i < K ∧ zwo1 cr t (zwss cr t S i) (zwA t i) = none
  · obtain ⟨D, ⟨h1, h2⟩, hm⟩ := pk_least _ ex
    exact ⟨D, by omega, fun i hi q => hm i hi ⟨by omega, q⟩, Or.inr h2⟩
  · exact ⟨K, Nat.le_refl _, fun i hi q => ex ⟨i, hi, q⟩, Or.inl rfl⟩
end WE
theorem zP_work_ok : zP_work zInv := by
  intro c M hc h
  obtain ⟨n, t, hB⟩ := h.2.1
  obtain ⟨p, e, w, hA⟩ := h.1
  obtain ⟨cr, tc, tr⟩ := iE_c h.2.2.2.2.1
  obtain ⟨n6, hn6, f1, f2, f3⟩ := h.2.2.2.2.2.1
  obtain ⟨hC, hWS, hRS⟩ := iA_S hA
  obtain ⟨hc1, hW, hR, hN⟩ := id hA
  have hT := iBn_tx hB
  have hn := hB.1
  rcases wk_class hT hB with ⟨hf, h60, K, hg, hK, hK3⟩ | ⟨s, hs, hf⟩
  · obtain ⟨D, d1, d2, d3⟩ := zD_ex cr t (p, e, w, M.1 1 2) K
    obtain ⟨x, x1, x2, x3⟩ := c_exec hT hWS hC tc hg hK d1 d2 d3 hK3 (v2 := lN (zshN p e w)) (v4 := M.1 1 2)
    have hCD := zwss_C (cr := cr) hC hg D d1
    rcases hS' : zwss cr t (p, e, w, M.1 1 2) D with ⟨p', e', w', nt'⟩
    rw [hS'] at x2 hCD
    have hCp := hCD.2.1
    have hCe := hCD.2.2.2.1
    obtain ⟨r0, hr0⟩ : ∃ r0 : Nat, r0 = if D = K then 0 else 1 := ⟨_, rfl⟩
    rw [← hr0] at x1
    -- the class's end
    have c131 : ∀ y : zM, zWS y 1 (p', e', w', nt') → ∃ z, f8_work_131 (nI D) (nI r0) y = some (nI D, z) ∧ zR8 z [(nI r0).toInt64, (nI (p' + e')).toInt64] ∧ zOut [9, 10] [] y z := by
      intro y hy
      obtain ⟨z, z1, z2⟩ := c_tell2 (nI r0).toInt64 (nI (p' + e')).toInt64 y
      refine ⟨z, ?_, z2, (o_X3_tell_ z1).mono (by simp) (fun _ q => q)⟩
      rw [f8_work_131, f7_threads, hy.1.1, hy.1.2.1, nI_add, Option.bind_some, z1]
      rfl
    have key : ∃ M1, f8_work M = some (nI D, M1) ∧ zWS M1 1 (p', e', w', nt') ∧ zR8 M1 [(nI r0).toInt64, (nI (p' + e')).toInt64] ∧ M1.1 7 1 = nI 0 ∧ (D = 0 → M1.1 33 = M.1 33 ∧ M1.2 34 = M.2 34 ∧ M1.1 35 = M.1 35) ∧ (0 < D → M1.1 33 2 = nI (zmi n6) ∧ ∀ i, i < zmi n6 → M1.2 34 i = (if i + 1 = zmi n6 then lN (zshN p e w) else M.2 34 (zsf n6 i)) ∧ M1.1 35 i = (if i + 1 = zmi n6 then M.1 1 2 else M.1 35 (zsf n6 i))) := by
      have e8 : f8_work M = f8_work_108 (lN (zshN p e w)) (M.1 1 2) (nI D) (nI r0) x := by
        rw [f8_work, hf, Option.bind_some, if_pos rfl, c_shape hW hc1, Option.bind_some, x1]
      have xs : zWS (zsi x 7 1 0) 1 (p', e', w', nt') := x2.to (zsi_ne (by omega)) (zsi_ne (by omega))
      by_cases g : D = 0
      · obtain ⟨z, z1, z2, z3⟩ := c131 (zsi x 7 1 0) xs
        refine ⟨z, ?_, xs.to (z3.1 1 (by simp) (by simp)).1 (z3.1 2 (by simp) (by simp)).1, z2, ?_, fun _ => ⟨?_, ?_, ?_⟩, fun q => absurd q (by omega)⟩
        · rw [e8, f8_work_108, if_pos (by rw [g]; decide), z1]
        · rw [(z3.1 7 (by simp) (by simp)).1]
          simp [zsi1, nI_0]
        · rw [(z3.1 33 (by simp) (by simp)).1, zsi_ne (by omega), (x3.1 33 (by simp) (by simp)).1]
        · rw [(z3.1 34 (by simp) (by simp)).2]
          show x.2 34 = _
          rw [(x3.1 34 (by simp) (by simp)).2]
        · rw [(z3.1 35 (by simp) (by simp)).1, zsi_ne (by omega), (x3.1 35 (by simp) (by simp)).1]
      · have m33 : (zsi x 7 1 0).1 33 = M.1 33 := by rw [zsi_ne (by omega), (x3.1 33 (by simp) (by simp)).1]
        have m34 : (zsi x 7 1 0).2 34 = M.2 34 := (x3.1 34 (by simp) (by simp)).2
        have m35 : (zsi x 7 1 0).1 35 = M.1 35 := by rw [zsi_ne (by omega), (x3.1 35 (by simp) (by simp)).1]
        obtain ⟨u, u1, u2, u3⟩ := c_push (M := zsi x 7 1 0) hn6 (by rw [m33, f1]) (lN (zshN p e w)) (M.1 1 2)
        have ou := o_X2_push u1
        obtain ⟨z, z1, z2, z3⟩ := c131 u (xs.to (ou.1 1 (by simp) (by simp)).1 (ou.1 2 (by simp) (by simp)).1)
        refine ⟨z, ?_, (xs.to (ou.1 1 (by simp) (by simp)).1 (ou.1 2 (by simp) (by simp)).1).to (z3.1 1 (by simp) (by simp)).1 (z3.1 2 (by simp) (by simp)).1, z2, ?_, fun q => absurd q g, fun _ => ⟨?_, fun i hi => ?_⟩⟩
        · rw [e8, f8_work_108, if_neg (nI_nle (by omega) (by omega)), u1, Option.bind_some, z1]
        · rw [(z3.1 7 (by simp) (by simp)).1, (ou.1 7 (by simp) (by simp)).1]
          simp [zsi1, nI_0]
        · rw [(z3.1 33 (by simp) (by simp)).1, u2]
        · rw [(z3.1 34 (by simp) (by simp)).2, (z3.1 35 (by simp) (by simp)).1]
          have := u3 i hi
          rw [m34, m35] at this
          exact this
    obtain ⟨M1, h8, W8, z8, t8, u80, u81⟩ := key
    have o8 := o_X8_work h8
    have trM : zTr M1 n t := (iBn_tr hB).to (o8.2 7 (by simp) (by simp)) (o8.1 43 (by simp) (by simp)).1
    -- the reference
    have key9 : ∃ X, f9_work M1 = some (nI D, X) ∧ zRS X 41 (p', e', w', nt') ∧ zR9 X [(nI r0).toInt64, (nI (p' + e')).toInt64] ∧ X.1 39 7 = nI 0 ∧ (D = 0 → X.1 39 18 = nI n6 ∧ ∀ i j, i < n6 → j < 9 → X.1 49 (9 * i + j) = M1.1 49 (9 * i + j)) ∧ (0 < D → X.1 39 18 = nI (zmi n6) ∧ ∀ i j, i < zmi n6 → j < 9 → X.1 49 (9 * i + j) = (if i + 1 = zmi n6 then M1.1 41 j else M1.1 49 (9 * zsf n6 i + j))) := by
      refine wk_ok hT trM h60 hf (P := fun o => ∃ X, o = some (nI D, X) ∧ zRS X 41 (p', e', w', nt') ∧ zR9 X [(nI r0).toInt64, (nI (p' + e')).toInt64] ∧ X.1 39 7 = nI 0 ∧ (D = 0 → X.1 39 18 = nI n6 ∧ ∀ i j, i < n6 → j < 9 → X.1 49 (9 * i + j) = M1.1 49 (9 * i + j)) ∧ (0 < D → X.1 39 18 = nI (zmi n6) ∧ ∀ i j, i < zmi n6 → j < 9 → X.1 49 (9 * i + j) = (if i + 1 = zmi n6 then M1.1 41 j else M1.1 49 (9 * zsf n6 i + j)))) (fun K' Y y1 y2 y3 => ?_)
      have eK : K' = K := zwA_inj (by rw [y2, hK])
      subst eK
      obtain ⟨w1, w2, w3, w4, w5⟩ := y1
      have q18 : Y.1 39 18 = nI n6 := by rw [y3.2 18 (by simp) (by simp), o8.2 18 (by simp) (by simp), f2]
      have m41 : M1.1 41 = M.1 41 := (o8.1 41 (by simp) (by simp)).1
      have y41 : Y.1 41 = M.1 41 := by rw [(y3.1 41 (by simp) (by simp)).1, m41]
      have y49 : Y.1 49 = M1.1 49 := (y3.1 49 (by simp) (by simp)).1
      obtain ⟨Y2, a1, a2, a3⟩ := r_puts hn6 q18
      have oa := o_X9_putsBy a1
      have yR : zRS Y2 41 (p, e, w, M.1 1 2) := hRS.to (by rw [(oa.1 41 (by simp) (by simp)).1, y41])
      have ycr : zCr Y2 cr := tr.to (by rw [oa.2 14 (by simp) (by simp), y3.2 14 (by simp) (by simp), o8.2 14 (by simp) (by simp)]) (by rw [(oa.1 45 (by simp) (by simp)).1, (y3.1 45 (by simp) (by simp)).1, (o8.1 45 (by simp) (by simp)).1])
      obtain ⟨z, z1, z2, z3⟩ := r_exec yR hC ycr w1 (fun i hi => by
        simp only [zad2, (oa.1 50 (by simp) (by simp)).1, (oa.1 51 (by simp) (by simp)).1, (oa.1 52 (by simp) (by simp)).1, (oa.1 53 (by simp) (by simp)).1]
        exact w5 i hi) (by rw [oa.2 24 (by simp) (by simp), w4]) d1 d2 d3 hK3
      rw [hS'] at z2
      have qf := r_faultOf (m := 60) hn (by omega) w3 true
      rw [if_pos ⟨rfl, by rw [y2]; omega⟩, if_pos h60] at qf
      have e42 : f9_work_42 (nI n) 1 Y = f9_work_88 (nI D) z := by
        rw [f9_work_42, show f9_faultOf (nI n) 60 1 Y = some (nI 0) from qf, Option.bind_some, if_pos (by decide), a1, Option.bind_some, z1]
      have zb : zOut [41, 42, 47, 48, 49] [] Y z := (oa.mono (by simp) (fun _ q => q) : zOut [41, 42, 47, 48, 49] [] Y Y2).call z3 (by simp) (fun _ q => q)
      have e24 : (zsi z 39 1 0).1 39 24 = nI K' := by
        rw [zsi1, if_neg (by decide), zb.2 24 (by simp) (by simp), w4]
      have efl : f9_flag (if nI K' ≤ nI D then (0 : Int32) else 1) = some (nI r0) := by
        by_cases g : D = K'
        · rw [if_pos (nI_le (by omega) (by omega)), hr0, if_pos g]
          rfl
        · rw [if_neg (nI_ge (by omega) (by omega)), hr0, if_neg g]
          rfl
      obtain ⟨V1, b1, b2⟩ := r_tell (nI r0).toInt64 z
      have ob1 := o_X9_enters b1
      obtain ⟨V2, b3, b4⟩ := b2.add (by simp) (nI (p' + e')).toInt64
      have ob2 := o_X9_enters b3
      have v1R : zRS V1 41 (p', e', w', nt') := (zRS_si0 z2 (by omega) : zRS (zsi z 39 1 0) 41 _).to (ob1.1 41 (by simp) (by simp)).1
      have v2R : zRS V2 41 (p', e', w', nt') := v1R.to (ob2.1 41 (by simp) (by simp)).1
      have vo : zOut [40] [1] z V2 := ((zOut.rf.si 39 1 0 (Or.inr ⟨rfl, by simp⟩) : zOut [40] [1] z (zsi z 39 1 0)).call ob1 (by simp) (by simp)).call ob2 (by simp) (by simp)
      have v7 : V2.1 39 7 = nI 0 := by rw [vo.2 7 (by simp) (by simp), zb.2 7 (by simp) (by simp), w3.2.2.2.2.2]
      have v18 : V2.1 39 18 = nI n6 := by rw [vo.2 18 (by simp) (by simp), zb.2 18 (by simp) (by simp), q18]
      have v49 : V2.1 49 = Y2.1 49 := by rw [(vo.1 49 (by simp) (by simp)).1, (z3.1 49 (by simp) (by simp)).1]
      have e88 : f9_work_88 (nI D) z = if nI D ≤ 0 then some (0, V2) else (f9_adds (nI D) V2).bind fun p5 => some (p5.1, p5.2) := by
        rw [f9_work_88, e24, efl, Option.bind_some, b1, Option.bind_some, f9_threadsOf, v1R.1.1, v1R.1.2.1, nI_add, Option.bind_some, b3, Option.bind_some]
      rw [e42, e88]
      by_cases g : D = 0
      · rw [if_pos (by rw [g]; decide)]
        refine ⟨V2, by rw [g]; rfl, v2R, b4, v7, fun _ => ⟨v18, fun i j hi hj => ?_⟩, fun q => absurd q (by omega)⟩
        rw [v49, a2 i j hi hj, y49]
      · rw [if_neg (nI_nle (by omega) (by omega))]
        obtain ⟨V3, k1, k2, k3⟩ := r_adds hn6 v18 (nI D)
        have ok := o_X9_adds k1
        refine ⟨V3, by rw [k1]; rfl, v2R.to (ok.1 41 (by simp) (by simp)).1, zR9_to (ok.same rfl) b4, by rw [ok.2 7 (by simp) (by simp), v7], fun q => absurd q g, fun _ => ⟨k2, fun i j hi hj => ?_⟩⟩
        have hz : zmi n6 = n6 + 1 ∧ n6 < 15 ∨ zmi n6 = 15 ∧ n6 = 15 := by unfold zmi; split <;> omega
        rw [k3 i j hi hj, v49]
        by_cases hl : i + 1 = zmi n6
        · rw [if_pos hl]
          have : zsf n6 i = n6 := by unfold zsf; split <;> omega
          rw [this, a3 j hj, y41, m41]
        · rw [if_neg hl]
          have : zsf n6 i < n6 := by unfold zsf; split <;> omega
          rw [a2 _ j this hj, y49]
    obtain ⟨X, h9, R9, z9, t9, u90, u91⟩ := key9
    have o9 := o_X9_work h9
    have r1 := (o9.1 1 (by simp) (by simp)).1
    have r2 := (o9.1 2 (by simp) (by simp)).1
    refine ⟨_, _, _, h8, h9, zInv_to h (o8.trans o9) (Or.inr ⟨p', e', w', hCD, W8.1.to r1 r2, R9.1, by rw [R9.2, r1, W8.2]⟩) (Or.inr ⟨0, fun _ => 0, by omega, by rw [(o9.1 7 (by simp) (by simp)).1, t8], t9, fun i hi => absurd hi (by omega)⟩) (Or.inr ⟨_, zR8_to (o9.same rfl) z8, z9⟩) (Or.inl rfl) (Or.inl rfl) (Or.inr ?_) (Or.inl rfl) (Or.inl rfl)⟩
    by_cases g : D = 0
    · obtain ⟨a1, a2, a3⟩ := u80 g
      obtain ⟨b1, b2⟩ := u90 g
      have m49 : M1.1 49 = M.1 49 := (o8.1 49 (by simp) (by simp)).1
      refine ⟨n6, hn6, by rw [(o9.1 33 (by simp) (by simp)).1, a1, f1], b1, fun i hi => ?_⟩
      obtain ⟨pp, ee, ww, hk⟩ := f3 i hi
      refine ⟨pp, ee, ww, ?_⟩
      rw [(o9.1 34 (by simp) (by simp)).2, (o9.1 35 (by simp) (by simp)).1, a2, a3]
      obtain ⟨k1, k2, k3, k4, k5, k6⟩ := hk
      have hp6 := k1.2.1
      refine ⟨k1, k2, ?_, ?_, ?_, fun j hj => ?_⟩
      · show _ = X.1 49 (9 * i + 8)
        rw [b2 i 8 hi (by omega), m49]
        exact k3
      · show X.1 49 (9 * i + 6) = _
        rw [b2 i 6 hi (by omega), m49]
        exact k4
      · show X.1 49 (9 * i + 7) = _
        rw [b2 i 7 hi (by omega), m49]
        exact k5
      · show X.1 49 (9 * i + j) = _
        rw [b2 i j hi (by omega), m49]
        exact k6 j hj
    · refine iF_add hA h.2.2.2.2.2.1 ?_ ?_
      · intro n' hn' q
        have : n' = n6 := by
          rw [f1, nI_eq (by omega) (by omega)] at q
          exact q.symm
        subst this
        rw [(o9.1 33 (by simp) (by simp)).1, (o9.1 34 (by simp) (by simp)).2, (o9.1 35 (by simp) (by simp)).1]
        exact u81 (by omega)
      · intro n' hn' q
        have : n' = n6 := by
          rw [f2, nI_eq (by omega) (by omega)] at q
          exact q.symm
        subst this
        obtain ⟨b1, b2⟩ := u91 (by omega)
        refine ⟨b1, fun i j hi hj => ?_⟩
        rw [b2 i j hi hj, (o8.1 41 (by simp) (by simp)).1, (o8.1 49 (by simp) (by simp)).1]
  · have h8 : f8_work M = some (-1 - nI s, zsi M 7 1 0) := by
      rw [f8_work, hf, Option.bind_some, if_neg (nI_nm1 (by omega))]
    have trM : zTr (zsi M 7 1 0) n t := (iBn_tr hB).to (by rw [zsi_ne (by omega)]) (by rw [zsi_ne (by omega)])
    obtain ⟨Y, y1, y2, y3⟩ := wk_fault hT trM hs hf
    refine ⟨_, _, _, h8, y1, zInv_to h ((zOut.rf.si 7 1 0 (Or.inl (by simp)) : zOut [7] [] M (zsi M 7 1 0)).trans y3) (Or.inl rfl) (Or.inr ⟨0, fun _ => 0, by omega, ?_, y2, fun i hi => absurd hi (by omega)⟩) (Or.inl rfl) (Or.inl rfl) (Or.inl rfl) (Or.inl rfl) (Or.inl rfl) (Or.inl rfl)⟩
    rw [(y3.1 7 (by simp) (by simp)).1]
    simp [zsi1, nI_0]
