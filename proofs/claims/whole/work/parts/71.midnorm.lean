/-! a place made small: both objects -/
def gN (X Y N : Int64) : Nat := Nat.gcd (Nat.gcd X.toInt.natAbs Y.toInt.natAbs) N.toInt.natAbs
def gS (X Y N : Int64) : Int64 := if 0 ≤ lg_cmp N 0 then lN (gN X Y N) else - lN (gN X Y N)
def np1 (X Y N : Int64) : Int64 := X / gS X Y N
def np2 (X Y N : Int64) : Int64 := Y / gS X Y N
def np3 (X Y N : Int64) : Int64 := N / gS X Y N
def bigP (X Y N : Int64) : Prop := (-4000000 ≤ X.toInt ∧ X.toInt ≤ 4000000) ∧ (-4000000 ≤ Y.toInt ∧ Y.toInt ≤ 4000000) ∧ (-20000 ≤ N.toInt ∧ N.toInt ≤ 20000) ∧ N.toInt ≠ 0
theorem divL_i {x y : Int64} {c : Nat} (hx : x.toInt.natAbs ≤ c) (hc : c < 9223372036854775808) : (x / y).toInt = x.toInt.tdiv y.toInt ∧ (x.toInt.tdiv y.toInt).natAbs ≤ c := by
  have h1 : (x.toInt.tdiv y.toInt).natAbs = x.toInt.natAbs / y.toInt.natAbs := Int.natAbs_tdiv ..
  have h2 : x.toInt.natAbs / y.toInt.natAbs ≤ x.toInt.natAbs := Nat.div_le_self _ _
  have h3 : (x.toInt.tdiv y.toInt).natAbs ≤ c := by omega
  refine ⟨?_, h3⟩
  rw [Int64.toInt_div, fb_bmodL (by omega) (by omega)]
theorem gS_i {X Y N : Int64} (h : bigP X Y N) : 0 < gN X Y N ∧ gN X Y N ≤ 20000 ∧ (gS X Y N).toInt = (if 0 ≤ N.toInt then (gN X Y N : Int) else - (gN X Y N : Int)) := by
  obtain ⟨-, -, h3, h4⟩ := h
  have g0 : 0 < gN X Y N := Nat.gcd_pos_of_pos_right _ (by omega)
  have g1 : gN X Y N ≤ 20000 := by
    have := Nat.le_of_dvd (show 0 < N.toInt.natAbs by omega) (Nat.gcd_dvd_right (Nat.gcd X.toInt.natAbs Y.toInt.natAbs) N.toInt.natAbs)
    unfold gN
    omega
  refine ⟨g0, g1, ?_⟩
  have hn : (lN (gN X Y N)).toInt = (gN X Y N : Int) := pk_lT (by omega)
  have c1 : (0 ≤ lg_cmp N 0) ↔ 0 ≤ N.toInt := by
    rw [lg_ge0, fa_lt64]
    have z : (0 : Int64).toInt = 0 := rfl
    omega
  unfold gS
  by_cases c : 0 ≤ N.toInt
  · rw [if_pos (c1.mpr c), if_pos c, hn]
  · rw [if_neg (fun q => c (c1.mp q)), if_neg c, Int64.toInt_neg, hn, fb_bmodL (by omega) (by omega)]
theorem np_ok {X Y N : Int64} (h : bigP X Y N) : smP (np1 X Y N) (np2 X Y N) (np3 X Y N) ∧ plOk (plOf (np1 X Y N) (np2 X Y N) (np3 X Y N)) ∧ (np1 X Y N).toInt * N.toInt = X.toInt * (np3 X Y N).toInt ∧ (np2 X Y N).toInt * N.toInt = Y.toInt * (np3 X Y N).toInt := by
  obtain ⟨g0, g1, g2⟩ := gS_i h
  obtain ⟨hx, hy, hn, hn0⟩ := h
  have dx : gN X Y N ∣ X.toInt.natAbs := Nat.dvd_trans (Nat.gcd_dvd_left _ _) (Nat.gcd_dvd_left _ _)
  have dy : gN X Y N ∣ Y.toInt.natAbs := Nat.dvd_trans (Nat.gcd_dvd_left _ _) (Nat.gcd_dvd_right _ _)
  have dn : gN X Y N ∣ N.toInt.natAbs := Nat.gcd_dvd_right _ _
  have ga : (gS X Y N).toInt.natAbs = gN X Y N := by rw [g2]; split <;> omega
  have idv : ∀ z : Int, gN X Y N ∣ z.natAbs → (gS X Y N).toInt ∣ z := fun z hz => Int.natAbs_dvd_natAbs.mp (by rw [ga]; exact hz)
  obtain ⟨x1, x2⟩ := divL_i (x := X) (y := gS X Y N) (c := 4000000) (by omega) (by decide)
  obtain ⟨y1, y2⟩ := divL_i (x := Y) (y := gS X Y N) (c := 4000000) (by omega) (by decide)
  obtain ⟨n1, n2⟩ := divL_i (x := N) (y := gS X Y N) (c := 20000) (by omega) (by decide)
  have cx := Int.tdiv_mul_cancel (idv _ dx)
  have cy := Int.tdiv_mul_cancel (idv _ dy)
  have cn := Int.tdiv_mul_cancel (idv _ dn)
  have x1 : (np1 X Y N).toInt = X.toInt.tdiv (gS X Y N).toInt := x1
  have y1 : (np2 X Y N).toInt = Y.toInt.tdiv (gS X Y N).toInt := y1
  have n1 : (np3 X Y N).toInt = N.toInt.tdiv (gS X Y N).toInt := n1
  rw [← x1] at cx x2
  rw [← y1] at cy y2
  rw [← n1] at cn n2
  have np : 0 < (np3 X Y N).toInt := by
    by_cases c : 0 ≤ N.toInt
    · rw [if_pos c] at g2
      by_cases q : 0 < (np3 X Y N).toInt
      · exact q
      · have := Int.mul_nonneg (show 0 ≤ -(np3 X Y N).toInt by omega) (show 0 ≤ (gS X Y N).toInt by omega)
        rw [Int.neg_mul] at this
        omega
    · rw [if_neg c] at g2
      by_cases q : 0 < (np3 X Y N).toInt
      · exact q
      · have := Int.mul_nonneg (show 0 ≤ -(np3 X Y N).toInt by omega) (show 0 ≤ -(gS X Y N).toInt by omega)
        rw [Int.neg_mul_neg] at this
        omega
  refine ⟨⟨by omega, by omega, by omega⟩, ⟨np, ?_⟩, ?_, ?_⟩
  · show Nat.gcd (Nat.gcd (np1 X Y N).toInt.natAbs (np2 X Y N).toInt.natAbs) (np3 X Y N).toInt.natAbs = 1
    have ax : (np1 X Y N).toInt.natAbs * gN X Y N = X.toInt.natAbs := by rw [← ga, ← Int.natAbs_mul, cx]
    have ay : (np2 X Y N).toInt.natAbs * gN X Y N = Y.toInt.natAbs := by rw [← ga, ← Int.natAbs_mul, cy]
    have an : (np3 X Y N).toInt.natAbs * gN X Y N = N.toInt.natAbs := by rw [← ga, ← Int.natAbs_mul, cn]
    have e : gN X Y N = Nat.gcd (Nat.gcd X.toInt.natAbs Y.toInt.natAbs) N.toInt.natAbs := rfl
    rw [← ax, ← ay, ← an, Nat.gcd_mul_right, Nat.gcd_mul_right] at e
    exact (Nat.eq_of_mul_eq_mul_right g0 (by rw [Nat.one_mul]; exact e)).symm
  · generalize (np1 X Y N).toInt = a at *
    generalize (np3 X Y N).toInt = b at *
    generalize (gS X Y N).toInt = g at *
    rw [← cx, ← cn, Int.mul_assoc, Int.mul_comm g b]
  · generalize (np2 X Y N).toInt = a at *
    generalize (np3 X Y N).toInt = b at *
    generalize (gS X Y N).toInt = g at *
    rw [← cy, ← cn, Int.mul_assoc, Int.mul_comm g b]
/-- the one small place that these numbers tell -/
theorem np_iff {X Y N : Int64} (h : bigP X Y N) (P : Ln) : P = plOf (np1 X Y N) (np2 X Y N) (np3 X Y N) ↔ plOk P ∧ P.1 * N.toInt = X.toInt * P.2.2 ∧ P.2.1 * N.toInt = Y.toInt * P.2.2 := by
  obtain ⟨-, h2, h3, h4⟩ := np_ok h
  constructor
  · rintro rfl
    exact ⟨h2, h3, h4⟩
  · rintro ⟨k1, k2, k3⟩
    have n0 := h.2.2.2
    refine pl_eq k1 h2 ?_ ?_
    · show P.1 * (np3 X Y N).toInt = (np1 X Y N).toInt * P.2.2
      generalize (np1 X Y N).toInt = a at *
      generalize (np3 X Y N).toInt = b at *
      apply Int.eq_of_mul_eq_mul_right n0
      have e1 : P.1 * b * N.toInt = (P.1 * N.toInt) * b := by grind
      have e2 : a * P.2.2 * N.toInt = (a * N.toInt) * P.2.2 := by grind
      rw [e1, e2, k2, h3]
      grind
    · show P.2.1 * (np3 X Y N).toInt = (np2 X Y N).toInt * P.2.2
      generalize (np2 X Y N).toInt = a at *
      generalize (np3 X Y N).toInt = b at *
      apply Int.eq_of_mul_eq_mul_right n0
      have e1 : P.2.1 * b * N.toInt = (P.2.1 * N.toInt) * b := by grind
      have e2 : a * P.2.2 * N.toInt = (a * N.toInt) * P.2.2 := by grind
      rw [e1, e2, k3, h4]
      grind
/-! the test, as whole numbers: halves -/
def xsD (D : Dt) (v : Nat) : Int := (D.2.1 v).toInt
def ysD (D : Dt) (v : Nat) : Int := (D.2.2.1 v).toInt
def wsD (D : Dt) (v : Nat) : Nat := (D.2.2.2.1 v).toInt.toNat
theorem smm_i {T : Nat → Int32} {t : Nat → Nat} : ∀ {m : Nat}, m ≤ 15 → (∀ u, u < m → (T u).toInt = (t u : Int) ∧ t u ≤ 9) → (sm_ T m).toInt = (fb_sm t m : Int) ∧ fb_sm t m ≤ 9 * m
  | 0, _, _ => ⟨rfl, Nat.le_refl _⟩
  | m + 1, hm, h => by
    obtain ⟨h1, h2⟩ := smm_i (m := m) (by omega) (fun u hu => h u (by omega))
    obtain ⟨h3, h4⟩ := h m (by omega)
    rw [smm_s, fb_sm_succ, fb_addI (by omega) (by omega), h1, h3]
    omega
theorem pr6 {a b : Int} (h1 : -6000000 ≤ a) (h2 : a ≤ 6000000) (h3 : -6000000 ≤ b) (h4 : b ≤ 6000000) : -36000000000000 ≤ a * b ∧ a * b ≤ 36000000000000 := by
  have key : ∀ {a b : Int}, -6000000 ≤ a → a ≤ 6000000 → 0 ≤ b → b ≤ 6000000 → -36000000000000 ≤ a * b ∧ a * b ≤ 36000000000000 := by
    intro a b h1 h2 h3 h4
    have e1 : a * b ≤ 6000000 * b := Int.mul_le_mul_of_nonneg_right h2 h3
    have e2 : -6000000 * b ≤ a * b := Int.mul_le_mul_of_nonneg_right h1 h3
    omega
  by_cases c : 0 ≤ b
  · exact key h1 h2 c h4
  · have := key (a := a) (b := -b) h1 h2 (by omega) (by omega)
    rw [Int.mul_neg] at this
    omega
theorem mX_i {D : Dt} {X Y N : Int64} {u : Nat} (hs : smP X Y N) (hx : inN (D.2.1 u) 100 = true) (hy : inN (D.2.2.1 u) 100 = true) : (mX D X N u).toInt = dxP (xsD D) (plOf X Y N) u ∧ (mY D Y N u).toInt = dyP (ysD D) (plOf X Y N) u ∧ (-6000000 ≤ (mX D X N u).toInt ∧ (mX D X N u).toInt ≤ 6000000) ∧ (-6000000 ≤ (mY D Y N u).toInt ∧ (mY D Y N u).toInt ≤ 6000000) := by
  have i1 := inN_i.mp hx
  have i2 := inN_i.mp hy
  obtain ⟨a1, a2, a3⟩ := hs
  have pr : ∀ z : Int, 0 ≤ z → z < 100 → 0 ≤ N.toInt * z ∧ N.toInt * z ≤ 1980000 := by
    intro z z1 z2
    refine ⟨Int.mul_nonneg (by omega) z1, ?_⟩
    have e1 : N.toInt * z ≤ 20000 * z := Int.mul_le_mul_of_nonneg_right a3.2 z1
    omega
  have p1 := pr _ i1.1 i1.2
  have p2 := pr _ i2.1 i2.2
  have m1 : (N * (D.2.1 u).toInt64).toInt = N.toInt * (D.2.1 u).toInt := by
    rw [fb_mulL (by rw [Int32.toInt_toInt64]; omega) (by rw [Int32.toInt_toInt64]; omega), Int32.toInt_toInt64]
  have m2 : (N * (D.2.2.1 u).toInt64).toInt = N.toInt * (D.2.2.1 u).toInt := by
    rw [fb_mulL (by rw [Int32.toInt_toInt64]; omega) (by rw [Int32.toInt_toInt64]; omega), Int32.toInt_toInt64]
  have e1 : (mX D X N u).toInt = N.toInt * (D.2.1 u).toInt - X.toInt := by
    unfold mX
    rw [fb_subL (by rw [m1]; omega) (by rw [m1]; omega), m1]
  have e2 : (mY D Y N u).toInt = N.toInt * (D.2.2.1 u).toInt - Y.toInt := by
    unfold mY
    rw [fb_subL (by rw [m2]; omega) (by rw [m2]; omega), m2]
  refine ⟨e1, e2, by rw [e1]; omega, by rw [e2]; omega⟩
theorem half_of {D : Dt} {X Y N : Int64} (hn : D.1 ≤ 15) (hv : ∀ v, v < D.1 → inN (D.2.1 v) 100 = true ∧ inN (D.2.2.1 v) 100 = true ∧ 1 ≤ (D.2.2.2.1 v).toInt ∧ (D.2.2.2.1 v).toInt ≤ 9) (hs : smP X Y N) (hm : mdB D X Y N = true) : halfAt (xsD D) (ysD D) (wsD D) D.1 (plOf X Y N) := by
  have w9 : ∀ v, v < D.1 → ((D.2.2.2.1 v).toInt = (wsD D v : Int) ∧ wsD D v ≤ 9) := by
    intro v h
    obtain ⟨-, -, h3, h4⟩ := hv v h
    unfold wsD
    omega
  have z64 : (0 : Int64).toInt = 0 := rfl
  have tot : (totD D).toInt = (fb_sm (wsD D) D.1 : Int) := (smm_i (T := D.2.2.2.1) hn w9).1
  have tot2 : fb_sm (wsD D) D.1 ≤ 9 * D.1 := (smm_i (T := D.2.2.2.1) hn w9).2
  have sel : ∀ (c d : Nat → Prop) [DecidablePred c] [DecidablePred d], (∀ u, u < D.1 → (c u ↔ d u)) → (sm_ (fun u => if c u then D.2.2.2.1 u else 0) D.1).toInt = (sW (wsD D) d D.1 : Int) ∧ sW (wsD D) d D.1 ≤ 9 * D.1 := by
    intro c d _ _ hcd
    refine smm_i (T := fun u => if c u then D.2.2.2.1 u else 0) (t := fun u => if d u then wsD D u else 0) hn (fun u hu => ?_)
    have := hcd u hu
    have z : (0 : Int32).toInt = 0 := rfl
    by_cases q : d u
    · simp only [if_pos q, if_pos (this.mpr q)]; exact w9 u hu
    · simp only [if_neg q, if_neg (fun w => q (this.mp w))]; exact ⟨rfl, by omega⟩
  intro a b
  refine h_half (fun v hv1 nz => ?_) a b
  obtain ⟨vx, vy, vb, vc⟩ := mX_i (u := v) hs (hv v hv1).1 (hv v hv1).2.1
  have tI : ∀ u, u < D.1 → (mTn D X Y N v u).toInt = hT (dxP (xsD D) (plOf X Y N)) (dyP (ysD D) (plOf X Y N)) v u ∧ (mAl D X Y N v u).toInt = hA (dxP (xsD D) (plOf X Y N)) (dyP (ysD D) (plOf X Y N)) v u := by
    intro u hu
    obtain ⟨ux, uy, ub, uc⟩ := mX_i (u := u) hs (hv u hu).1 (hv u hu).2.1
    have q1 := pr6 vb.1 vb.2 uc.1 uc.2
    have q2 := pr6 vc.1 vc.2 ub.1 ub.2
    have q3 := pr6 vb.1 vb.2 ub.1 ub.2
    have q4 := pr6 vc.1 vc.2 uc.1 uc.2
    have e1 : (mX D X N v * mY D Y N u).toInt = (mX D X N v).toInt * (mY D Y N u).toInt := fb_mulL (by omega) (by omega)
    have e2 : (mY D Y N v * mX D X N u).toInt = (mY D Y N v).toInt * (mX D X N u).toInt := fb_mulL (by omega) (by omega)
    have e3 : (mX D X N v * mX D X N u).toInt = (mX D X N v).toInt * (mX D X N u).toInt := fb_mulL (by omega) (by omega)
    have e4 : (mY D Y N v * mY D Y N u).toInt = (mY D Y N v).toInt * (mY D Y N u).toInt := fb_mulL (by omega) (by omega)
    unfold mTn mAl hT hA
    rw [← vx, ← vy, ← ux, ← uy, fb_subL (by rw [e1, e2]; omega) (by rw [e1, e2]; omega), fb_addL (by rw [e3, e4]; omega) (by rw [e3, e4]; omega), e1, e2, e3, e4]
    exact ⟨rfl, rfl⟩
  have sv : mSp D X Y N v = false := by
    unfold mdB at hm
    cases q : mSp D X Y N v with
    | false => rfl
    | true =>
      have : anyN (mSp D X Y N) D.1 = true := anyN_iff.mpr ⟨v, hv1, q⟩
      rw [this] at hm
      cases hm
  have nz2 : ¬ (mX D X N v = 0 ∧ mY D Y N v = 0) := by
    rintro ⟨q1, q2⟩
    rw [fa_eq64, z64, vx] at q1
    rw [fa_eq64, z64, vy] at q2
    exact nz ⟨q1, q2⟩
  unfold mSp at sv
  have sv2 : ¬ totD D < 2 * (imax (mLf D X Y N v D.1) (mRg D X Y N v D.1) + imax (mAh D X Y N v D.1) (mBh D X Y N v D.1)) := by
    intro q
    rw [decide_eq_true q, Bool.and_true] at sv
    simp only [Bool.not_eq_false', Bool.and_eq_true, decide_eq_true_eq] at sv
    exact nz2 sv
  obtain ⟨l1, l2⟩ := sel (fun u => 0 < mTn D X Y N v u) (fun u => 0 < hT (dxP (xsD D) (plOf X Y N)) (dyP (ysD D) (plOf X Y N)) v u) (fun u hu => by rw [fa_lt64, (tI u hu).1, z64])
  obtain ⟨r1, r2⟩ := sel (fun u => mTn D X Y N v u < 0) (fun u => hT (dxP (xsD D) (plOf X Y N)) (dyP (ysD D) (plOf X Y N)) v u < 0) (fun u hu => by rw [fa_lt64, (tI u hu).1, z64])
  obtain ⟨a1, a2⟩ := sel (fun u => mTn D X Y N v u = 0 ∧ 0 < mAl D X Y N v u) (fun u => hT (dxP (xsD D) (plOf X Y N)) (dyP (ysD D) (plOf X Y N)) v u = 0 ∧ 0 < hA (dxP (xsD D) (plOf X Y N)) (dyP (ysD D) (plOf X Y N)) v u) (fun u hu => by rw [fa_lt64, fa_eq64, (tI u hu).1, (tI u hu).2, z64])
  obtain ⟨b1, b2⟩ := sel (fun u => mTn D X Y N v u = 0 ∧ mAl D X Y N v u < 0) (fun u => hT (dxP (xsD D) (plOf X Y N)) (dyP (ysD D) (plOf X Y N)) v u = 0 ∧ hA (dxP (xsD D) (plOf X Y N)) (dyP (ysD D) (plOf X Y N)) v u < 0) (fun u hu => by rw [fa_lt64, fa_eq64, (tI u hu).1, (tI u hu).2, z64])
  have l1 : (mLf D X Y N v D.1).toInt = _ := l1
  have r1 : (mRg D X Y N v D.1).toInt = _ := r1
  have a1 : (mAh D X Y N v D.1).toInt = _ := a1
  have b1 : (mBh D X Y N v D.1).toInt = _ := b1
  have x1 := imax_i (mLf D X Y N v D.1) (mRg D X Y N v D.1)
  have x2 := imax_i (mAh D X Y N v D.1) (mBh D X Y N v D.1)
  rw [fa_lt] at sv2
  have two : (2 : Int32).toInt = 2 := rfl
  have bx1 : 0 ≤ (imax (mLf D X Y N v D.1) (mRg D X Y N v D.1)).toInt ∧ (imax (mLf D X Y N v D.1) (mRg D X Y N v D.1)).toInt ≤ 135 ∧ (mLf D X Y N v D.1).toInt ≤ (imax (mLf D X Y N v D.1) (mRg D X Y N v D.1)).toInt := by
    rw [x1]; split <;> omega
  have bx2 : 0 ≤ (imax (mAh D X Y N v D.1) (mBh D X Y N v D.1)).toInt ∧ (imax (mAh D X Y N v D.1) (mBh D X Y N v D.1)).toInt ≤ 135 ∧ (mAh D X Y N v D.1).toInt ≤ (imax (mAh D X Y N v D.1) (mBh D X Y N v D.1)).toInt := by
    rw [x2]; split <;> omega
  have s1 : (imax (mLf D X Y N v D.1) (mRg D X Y N v D.1) + imax (mAh D X Y N v D.1) (mBh D X Y N v D.1)).toInt = (imax (mLf D X Y N v D.1) (mRg D X Y N v D.1)).toInt + (imax (mAh D X Y N v D.1) (mBh D X Y N v D.1)).toInt := fb_addI (by omega) (by omega)
  have s2 : (2 * (imax (mLf D X Y N v D.1) (mRg D X Y N v D.1) + imax (mAh D X Y N v D.1) (mBh D X Y N v D.1))).toInt = 2 * ((imax (mLf D X Y N v D.1) (mRg D X Y N v D.1)).toInt + (imax (mAh D X Y N v D.1) (mBh D X Y N v D.1)).toInt) := by
    rw [fb_mulI (by rw [two, s1]; omega) (by rw [two, s1]; omega), two, s1]
  rw [s2, tot] at sv2
  omega
/-! the class's test is the reference's: both ask whether each line leaves at most half on a side -/
theorem sides_i {D : Dt} {X Y N : Int64} (hn : D.1 ≤ 15) (hv : ∀ v, v < D.1 → inN (D.2.1 v) 100 = true ∧ inN (D.2.2.1 v) 100 = true ∧ 1 ≤ (D.2.2.2.1 v).toInt ∧ (D.2.2.2.1 v).toInt ≤ 9) (hs : smP X Y N) {v : Nat} (hv1 : v < D.1) {dx dy : Nat → Int} (hdx : dx = dxP (xsD D) (plOf X Y N)) (hdy : dy = dyP (ysD D) (plOf X Y N)) :
    ((totD D).toInt = (fb_sm (wsD D) D.1 : Int) ∧ fb_sm (wsD D) D.1 ≤ 135) ∧
    ((mLf D X Y N v D.1).toInt = (sW (wsD D) (fun u => 0 < hT dx dy v u) D.1 : Int) ∧ sW (wsD D) (fun u => 0 < hT dx dy v u) D.1 ≤ 135) ∧
    ((mRg D X Y N v D.1).toInt = (sW (wsD D) (fun u => hT dx dy v u < 0) D.1 : Int) ∧ sW (wsD D) (fun u => hT dx dy v u < 0) D.1 ≤ 135) ∧
    ((mAh D X Y N v D.1).toInt = (sW (wsD D) (fun u => hT dx dy v u = 0 ∧ 0 < hA dx dy v u) D.1 : Int) ∧ sW (wsD D) (fun u => hT dx dy v u = 0 ∧ 0 < hA dx dy v u) D.1 ≤ 135) ∧
    ((mBh D X Y N v D.1).toInt = (sW (wsD D) (fun u => hT dx dy v u = 0 ∧ hA dx dy v u < 0) D.1 : Int) ∧ sW (wsD D) (fun u => hT dx dy v u = 0 ∧ hA dx dy v u < 0) D.1 ≤ 135) ∧
    (mAs D X Y N v D.1).toInt = (sW (wsD D) (fun u => 0 < hT dx dy v u) D.1 : Int) + (sW (wsD D) (fun u => hT dx dy v u = 0 ∧ 0 < hA dx dy v u) D.1 : Int) := by
  have w9 : ∀ v, v < D.1 → ((D.2.2.2.1 v).toInt = (wsD D v : Int) ∧ wsD D v ≤ 9) := by
    intro v h
    obtain ⟨-, -, h3, h4⟩ := hv v h
    unfold wsD
    omega
  have z64 : (0 : Int64).toInt = 0 := rfl
  have tot : (totD D).toInt = (fb_sm (wsD D) D.1 : Int) := (smm_i (T := D.2.2.2.1) hn w9).1
  have tot2 : fb_sm (wsD D) D.1 ≤ 9 * D.1 := (smm_i (T := D.2.2.2.1) hn w9).2
  have sel : ∀ (c d : Nat → Prop) [DecidablePred c] [DecidablePred d], (∀ u, u < D.1 → (c u ↔ d u)) → (sm_ (fun u => if c u then D.2.2.2.1 u else 0) D.1).toInt = (sW (wsD D) d D.1 : Int) ∧ sW (wsD D) d D.1 ≤ 135 := by
    intro c d _ _ hcd
    have := smm_i (T := fun u => if c u then D.2.2.2.1 u else 0) (t := fun u => if d u then wsD D u else 0) hn (fun u hu => by
      have := hcd u hu
      have z : (0 : Int32).toInt = 0 := rfl
      by_cases q : d u
      · simp only [if_pos q, if_pos (this.mpr q)]; exact w9 u hu
      · simp only [if_neg q, if_neg (fun w => q (this.mp w))]; exact ⟨rfl, by omega⟩)
    refine ⟨this.1, ?_⟩
    have t2 : sW (wsD D) d D.1 ≤ 9 * D.1 := this.2
    omega
  obtain ⟨vx, vy, vb, vc⟩ := mX_i (u := v) hs (hv v hv1).1 (hv v hv1).2.1
  have tI : ∀ u, u < D.1 → (mTn D X Y N v u).toInt = hT dx dy v u ∧ (mAl D X Y N v u).toInt = hA dx dy v u := by
    intro u hu
    obtain ⟨ux, uy, ub, uc⟩ := mX_i (u := u) hs (hv u hu).1 (hv u hu).2.1
    have q1 := pr6 vb.1 vb.2 uc.1 uc.2
    have q2 := pr6 vc.1 vc.2 ub.1 ub.2
    have q3 := pr6 vb.1 vb.2 ub.1 ub.2
    have q4 := pr6 vc.1 vc.2 uc.1 uc.2
    have e1 : (mX D X N v * mY D Y N u).toInt = (mX D X N v).toInt * (mY D Y N u).toInt := fb_mulL (by omega) (by omega)
    have e2 : (mY D Y N v * mX D X N u).toInt = (mY D Y N v).toInt * (mX D X N u).toInt := fb_mulL (by omega) (by omega)
    have e3 : (mX D X N v * mX D X N u).toInt = (mX D X N v).toInt * (mX D X N u).toInt := fb_mulL (by omega) (by omega)
    have e4 : (mY D Y N v * mY D Y N u).toInt = (mY D Y N v).toInt * (mY D Y N u).toInt := fb_mulL (by omega) (by omega)
    rw [hdx, hdy]
    unfold mTn mAl hT hA
    rw [← vx, ← vy, ← ux, ← uy, fb_subL (by rw [e1, e2]; omega) (by rw [e1, e2]; omega), fb_addL (by rw [e3, e4]; omega) (by rw [e3, e4]; omega), e1, e2, e3, e4]
    exact ⟨rfl, rfl⟩
  refine ⟨⟨tot, by omega⟩, sel (fun u => 0 < mTn D X Y N v u) (fun u => 0 < hT dx dy v u) (fun u hu => by rw [fa_lt64, (tI u hu).1, z64]), sel (fun u => mTn D X Y N v u < 0) (fun u => hT dx dy v u < 0) (fun u hu => by rw [fa_lt64, (tI u hu).1, z64]), sel (fun u => mTn D X Y N v u = 0 ∧ 0 < mAl D X Y N v u) (fun u => hT dx dy v u = 0 ∧ 0 < hA dx dy v u) (fun u hu => by rw [fa_lt64, fa_eq64, (tI u hu).1, (tI u hu).2, z64]), sel (fun u => mTn D X Y N v u = 0 ∧ mAl D X Y N v u < 0) (fun u => hT dx dy v u = 0 ∧ hA dx dy v u < 0) (fun u hu => by rw [fa_lt64, fa_eq64, (tI u hu).1, (tI u hu).2, z64]), ?_⟩
  have k := (sel (fun u => 0 < mTn D X Y N v u ∨ (mTn D X Y N v u = 0 ∧ 0 < mAl D X Y N v u)) (fun u => 0 < hT dx dy v u ∨ (hT dx dy v u = 0 ∧ 0 < hA dx dy v u)) (fun u hu => by rw [fa_lt64, fa_lt64, fa_eq64, (tI u hu).1, (tI u hu).2, z64])).1
  have k : (mAs D X Y N v D.1).toInt = (sW (wsD D) (fun u => 0 < hT dx dy v u ∨ (hT dx dy v u = 0 ∧ 0 < hA dx dy v u)) D.1 : Int) := k
  have e : sW (wsD D) (fun u => 0 < hT dx dy v u ∨ (hT dx dy v u = 0 ∧ 0 < hA dx dy v u)) D.1 = sW (wsD D) (fun u => 0 < hT dx dy v u) D.1 + sW (wsD D) (fun u => hT dx dy v u = 0 ∧ 0 < hA dx dy v u) D.1 := by
    unfold sW
    rw [← fb_sm_add]
    refine Nat.le_antisymm (fb_sm_le (fun u hu => ?_)) (fb_sm_le (fun u hu => ?_))
    · by_cases c1 : 0 < hT dx dy v u
      · rw [if_pos (Or.inl c1), if_pos c1]; omega
      · by_cases c2 : hT dx dy v u = 0 ∧ 0 < hA dx dy v u
        · rw [if_pos (Or.inr c2), if_pos c2]; omega
        · rw [if_neg (fun q => q.elim c1 c2)]; omega
    · by_cases c1 : 0 < hT dx dy v u
      · rw [if_pos (Or.inl c1), if_pos c1, if_neg (fun q => by have := q.1; omega)]; omega
      · by_cases c2 : hT dx dy v u = 0 ∧ 0 < hA dx dy v u
        · rw [if_pos (Or.inr c2), if_pos c2, if_neg c1]; omega
        · rw [if_neg c1, if_neg c2]; omega
  rw [k, e]
  exact Int.natCast_add ..
theorem two_i {x : Int32} (h1 : 0 ≤ x.toInt) (h2 : x.toInt ≤ 1000) : (2 * x).toInt = 2 * x.toInt := by
  have two : (2 : Int32).toInt = 2 := rfl
  rw [fb_mulI (by rw [two]; omega) (by rw [two]; omega), two]
theorem mc_half {D : Dt} {X Y N : Int64} (hn : D.1 ≤ 15) (hv : ∀ v, v < D.1 → inN (D.2.1 v) 100 = true ∧ inN (D.2.2.1 v) 100 = true ∧ 1 ≤ (D.2.2.2.1 v).toInt ∧ (D.2.2.2.1 v).toInt ≤ 9) (hs : smP X Y N) (hm : mcB D X Y N = true) : halfAt (xsD D) (ysD D) (wsD D) D.1 (plOf X Y N) := by
  intro a b
  refine h_half (fun v hv1 nz => ?_) a b
  obtain ⟨⟨t1, t2⟩, ⟨l1, l2⟩, -, ⟨a1, a2⟩, -, s1⟩ := sides_i hn hv hs hv1 rfl rfl
  have sv : mCr D X Y N v = false := by
    unfold mcB at hm
    cases q : mCr D X Y N v with
    | false => rfl
    | true =>
      have : anyN (mCr D X Y N) D.1 = true := anyN_iff.mpr ⟨v, hv1, q⟩
      rw [this] at hm
      cases hm
  unfold mCr at sv
  have sv2 : ¬ totD D < 2 * mAs D X Y N v D.1 := of_decide_eq_false sv
  rw [fa_lt, two_i (by omega) (by omega), s1, t1] at sv2
  omega
theorem half_mc {D : Dt} {X Y N : Int64} (hn : D.1 ≤ 15) (hv : ∀ v, v < D.1 → inN (D.2.1 v) 100 = true ∧ inN (D.2.2.1 v) 100 = true ∧ 1 ≤ (D.2.2.2.1 v).toInt ∧ (D.2.2.2.1 v).toInt ≤ 9) (hs : smP X Y N) (hh : halfAt (xsD D) (ysD D) (wsD D) D.1 (plOf X Y N)) : mcB D X Y N = true ∧ mdB D X Y N = true := by
  constructor
  · unfold mcB
    cases q : anyN (mCr D X Y N) D.1 with
    | false => rfl
    | true =>
      exfalso
      obtain ⟨v, hv1, c⟩ := anyN_iff.mp q
      obtain ⟨⟨t1, t2⟩, ⟨l1, l2⟩, -, ⟨a1, a2⟩, -, s1⟩ := sides_i hn hv hs hv1 rfl rfl
      have tn := (h_turn hh v).1.1
      unfold mCr at c
      have c2 : totD D < 2 * mAs D X Y N v D.1 := of_decide_eq_true c
      rw [fa_lt, two_i (by omega) (by omega), s1, t1] at c2
      omega
  · unfold mdB
    cases q : anyN (mSp D X Y N) D.1 with
    | false => rfl
    | true =>
      exfalso
      obtain ⟨v, hv1, c⟩ := anyN_iff.mp q
      obtain ⟨⟨t1, t2⟩, ⟨l1, l2⟩, ⟨r1, r2⟩, ⟨a1, a2⟩, ⟨b1, b2⟩, -⟩ := sides_i hn hv hs hv1 rfl rfl
      obtain ⟨⟨n1, n2⟩, ⟨n3, n4⟩⟩ := h_turn hh v
      unfold mSp at c
      have c2 : totD D < 2 * (imax (mLf D X Y N v D.1) (mRg D X Y N v D.1) + imax (mAh D X Y N v D.1) (mBh D X Y N v D.1)) := by
        rw [Bool.and_eq_true] at c
        exact of_decide_eq_true c.2
      have x1 := imax_i (mLf D X Y N v D.1) (mRg D X Y N v D.1)
      have x2 := imax_i (mAh D X Y N v D.1) (mBh D X Y N v D.1)
      have bx1 : 0 ≤ (imax (mLf D X Y N v D.1) (mRg D X Y N v D.1)).toInt ∧ (imax (mLf D X Y N v D.1) (mRg D X Y N v D.1)).toInt ≤ 135 := by
        rw [x1]; split <;> omega
      have bx2 : 0 ≤ (imax (mAh D X Y N v D.1) (mBh D X Y N v D.1)).toInt ∧ (imax (mAh D X Y N v D.1) (mBh D X Y N v D.1)).toInt ≤ 135 := by
        rw [x2]; split <;> omega
      have s1 : (imax (mLf D X Y N v D.1) (mRg D X Y N v D.1) + imax (mAh D X Y N v D.1) (mBh D X Y N v D.1)).toInt = (imax (mLf D X Y N v D.1) (mRg D X Y N v D.1)).toInt + (imax (mAh D X Y N v D.1) (mBh D X Y N v D.1)).toInt := fb_addI (by omega) (by omega)
      rw [fa_lt, two_i (by omega) (by omega), s1, t1, x1, x2] at c2
      split at c2 <;> split at c2 <;> omega
theorem mc_eq {D : Dt} {X Y N : Int64} (hn : D.1 ≤ 15) (hv : ∀ v, v < D.1 → inN (D.2.1 v) 100 = true ∧ inN (D.2.2.1 v) 100 = true ∧ 1 ≤ (D.2.2.2.1 v).toInt ∧ (D.2.2.2.1 v).toInt ≤ 9) (hs : smP X Y N) : mcB D X Y N = mdB D X Y N := by
  cases c1 : mcB D X Y N with
  | true => exact (half_mc hn hv hs (mc_half hn hv hs c1)).2.symm
  | false =>
    cases c2 : mdB D X Y N with
    | false => rfl
    | true =>
      have := (half_mc hn hv hs (half_of hn hv hs c2)).1
      rw [c1] at this
      cases this
theorem k_isMiddle {M : Mem} {n p : Nat} (h : DI M n p) {X Y N : Int64} (hs : smP X Y N) : fX4_isMiddle M X Y N = some (bI (mdB (cD M) X Y N)) := by
  rw [k_isMid h, mc_eq (by rw [h.cn]; exact h.n15) (fun v hv => ?_) hs]
  obtain ⟨o1, o2, o3, -⟩ := h.2.2.1 v (by rw [← h.cn]; exact hv)
  exact ⟨o1, o2, o3⟩
