theorem below_iff {M : Mem} {r a : Nat} {L : Ln → Prop} {b m : Nat} {p q : Int} (hL : ∀ x, (∃ i, i < r ∧ lo M i = x) ↔ L x) (h : bstI L m b p q) : (0 < r ∧ ∀ i, i < r → tpL (lo M i) a * q < p * btL (lo M i)) ↔ blw1 L a p q := by
  constructor
  · rintro ⟨h1, h2⟩
    refine ⟨?_, fun l hl => ?_⟩
    · have h20 := h2 0 h1
      have t := tp_nn (lo M 0) a
      have q0 := h.2.1.1
      have p0 := h.2.1.2.1
      have mm0 := Int.mul_nonneg t (show 0 ≤ q by omega)
      by_cases c : 0 < p
      · exact c
      · have e : p = 0 := by omega
        rw [e, Int.zero_mul] at h20
        omega
    · obtain ⟨i, i1, rfl⟩ := (hL l).mpr hl
      exact h2 i i1
  · rintro ⟨h1, h2⟩
    refine ⟨?_, fun i hi => h2 _ ((hL _).mp ⟨i, hi, rfl⟩)⟩
    rcases h.2.1.2.2.2 with e | ⟨l, l1, -⟩
    · omega
    · obtain ⟨i, i1, -⟩ := (hL l).mpr l1
      omega
def rgR5 : Rg := [(35, 35, some 1), (35, 35, some 2), (35, 35, some 3), (35, 35, some 4), (35, 35, some 5)]
/-- what holds when the class has gone through the points below a -/
def RI5 (M X : Mem) (r : Nat) (L : Ln → Prop) (a : Nat) : Prop := sm rgR5 M X ∧ ∃ b p q y, RS X b p q ∧ bstI L (if a = 0 then 1 else a) b p q ∧ X.1 35 5 = nI y ∧ (y < r ∨ y = 0)
theorem k_rstep {M X : Mem} {r a : Nat} {L : Ln → Prop} (hr : r ≤ 105) (h26 : M.1 26 4 = nI r) (ha : a < 10000) (hl : ∀ i, i < r → sm3 (rw3 M i) ∧ lnOk (lo M i)) (hp : bpos L) (hL : ∀ x, (∃ i, i < r ∧ lo M i = x) ↔ L x) (h : RI5 M X r L a) (K : Mem → Option Mem) :
    ∃ X1, ((fX7_isNearer (nI (a / 100)) (nI (a % 100)) X).bind (fun q69 => (if q69.1 = 0 then K (q69.2) else (fX7_settleAt (nI (a / 100)) (nI (a % 100)) q69.2).bind (fun q78 => K q78)))) = K X1 ∧ RI5 M X1 r L (a + 1) := by
  obtain ⟨g1, b, p, q, y, g2, g3, g4, g5⟩ := h
  have o := g1.on [(26, 29, none)] (by decide) (by decide)
  have el : lo X = lo M := lo_on (o.sub (by decide))
  have er : ∀ k, rw3 X k = rw3 M k := fun k => by unfold rw3; rw [o.i 27 k rfl, o.i 28 k rfl, o.i 29 k rfl]
  have hlX : ∀ i, i < r → sm3 (rw3 X i) ∧ lnOk (lo X i) := fun i hi => by rw [er, el]; exact hl i hi
  have h26X : X.1 26 4 = nI r := (o.i 26 4 rfl).trans h26
  obtain ⟨w1, w2, w3, w4, w5⟩ := id g2
  obtain ⟨c, X1, c1, c2, ⟨y1, c3, c4⟩, c5⟩ := k_nearer (a := a) hr h26X ha hlX w3 w4 w5 g4 g5
  rw [el] at c2
  rw [below_iff hL g3] at c2
  rw [c1, Option.bind_some]
  have o5 := c5.on [(35, 35, some 1), (35, 35, some 2), (35, 35, some 3), (35, 35, some 4)] (by decide) (by decide)
  have rs1 : RS X1 b p q := ⟨by rw [o5.i 35 1 rfl]; exact w1, by rw [o5.i 35 2 rfl]; exact w2, by rw [o5.l 35 3 rfl]; exact w3, by rw [o5.l 35 4 rfl]; exact w4, w5⟩
  have mm : (if a + 1 = 0 then 1 else a + 1) = a + 1 := if_neg (by omega)
  by_cases cc : c = 0
  · rw [if_pos cc]
    refine ⟨X1, rfl, g1.tr (c5.up (by decide)), b, p, q, y1, rs1, ?_, c3, c4⟩
    rw [mm]
    by_cases a0 : a = 0
    · subst a0
      rw [if_pos rfl] at g3
      exact g3
    · rw [if_neg a0] at g3
      exact bst_no g3 (c2.mp cc)
  · rw [if_neg cc]
    have hb : blw1 L a p q := Classical.byContradiction fun w => cc (c2.mpr w)
    have a0 : a ≠ 0 := by
      intro e
      subst e
      rw [if_pos rfl] at g3
      exact g3.2.2.1 0 (by omega) hb
    rw [if_neg a0] at g3
    have o6 := c5.on [(26, 29, none)] (by decide) (by decide)
    have el6 : lo X1 = lo X := lo_on (o6.sub (by decide))
    have er6 : ∀ k, rw3 X1 k = rw3 X k := fun k => by unfold rw3; rw [o6.i 27 k rfl, o6.i 28 k rfl, o6.i 29 k rfl]
    obtain ⟨X2, p2, q2, s1, s2, s3, s4⟩ := k_settle (M := X1) (a := a) hr ((o6.i 26 4 rfl).trans h26X) ha (fun i hi => by rw [er6, el6]; exact hlX i hi)
    rw [show fX7_settleAt (nI (a / 100)) (nI (a % 100)) ((c, X1) : Int32 × Mem).2 = some X2 from s1, Option.bind_some]
    rw [el6, el] at s3
    refine ⟨X2, rfl, (g1.tr (c5.up (by decide))).tr (s4.up (by decide)), a, p2, q2, y1, s2, ?_, ?_, c4⟩
    · rw [mm]
      exact bst_yes hp g3 hb (mk_mx s3 hL)
    · rw [(s4.on [(35, 35, some 5)] (by decide) (by decide)).i 35 5 rfl]; exact c3
theorem k_rloop {M X0 : Mem} {r : Nat} {L : Ln → Prop} (hr : r ≤ 105) (h26 : M.1 26 4 = nI r) (hl : ∀ i, i < r → sm3 (rw3 M i) ∧ lnOk (lo M i)) (hp : bpos L) (hL : ∀ x, (∃ i, i < r ∧ lo M i = x) ↔ L x) (h : RI5 M X0 r L 0) (K : Mem → Option Mem) : ∃ X1, fX7_refresh_52 K FU 0 X0 = K X1 ∧ RI5 M X1 r L 10000 := by
  have e100 : (100 : Int32) = nI 100 := rfl
  have hh := for_ex (σ := Mem) (fun f i s => fX7_refresh_52 K f i s) (fun s => K s) 100
    (fun i X => RI5 M X r L (i * 100)) ?_ ?_ X0 h FU (FU_gt (by omega))
  · exact hh
  · rintro f x X hx g
    have hun : fX7_refresh_52 K (f + 1) (nI x) X = fX7_refresh_60 (fX7_refresh_87 (fX7_refresh_52 K f) K) FU (nI x) (nI 0) X := by
      rw [fX7_refresh_52, e100, if_neg (nI_ge hx (by omega))]; rfl
    have hh := for_ex (σ := Mem) (fun f2 i s => fX7_refresh_60 (fX7_refresh_87 (fX7_refresh_52 K f) K) f2 (nI x) i s) (fun s => fX7_refresh_52 K f (nI (x + 1)) s) 100
      (fun j X => RI5 M X r L (x * 100 + j)) ?_ ?_ X g FU (FU_gt (by omega))
    · obtain ⟨X1, q1, q2⟩ := hh
      refine ⟨X1, hun.trans q1, ?_⟩
      rw [show (x + 1) * 100 = x * 100 + 100 by omega]
      exact q2
    · rintro f2 j X hj g
      have ex : (x * 100 + j) / 100 = x := by omega
      have ey : (x * 100 + j) % 100 = j := by omega
      obtain ⟨X1, q1, q2⟩ := k_rstep (a := x * 100 + j) hr h26 (by omega) hl hp hL g (fX7_refresh_60 (fX7_refresh_87 (fX7_refresh_52 K f) K) f2 (nI x) (nI (j + 1)))
      rw [ex, ey] at q1
      refine ⟨X1, ?_, q2⟩
      show fX7_refresh_60 _ (f2 + 1) (nI x) (nI j) X = _
      rw [fX7_refresh_60, e100, if_neg (nI_ge hj (by omega))]
      unfold fX7_refresh_81
      simp only [nx_eq, nI_s]
      exact q1
    · rintro f2 X -
      show fX7_refresh_60 _ (f2 + 1) (nI x) (nI 100) X = _
      rw [fX7_refresh_60, e100, if_pos (nI_le (Nat.le_refl _) (by omega))]
      unfold fX7_refresh_87
      rw [nx_eq, nI_s]
  · rintro f X -
    show fX7_refresh_52 K (f + 1) (nI 100) X = _
    rw [fX7_refresh_52, e100, if_pos (nI_le (Nat.le_refl _) (by omega))]
/-- what Round keeps -/
def RC (M : Mem) : Prop := ∃ b p q : Nat, bstI (lnS (cD M) (cD M).1 0) 10000 b p q ∧ pqS p q ∧ M.1 35 1 = nI (b / 100) ∧ M.1 35 2 = nI (b % 100) ∧ M.2 35 3 = lN (p / Nat.gcd p q) ∧ M.2 35 4 = lN (q / Nat.gcd p q)
def RK (M : Mem) : Prop := M.1 35 6 = M.1 1 14 → RC M
theorem RC_on {M M1 : Mem} (h : on [(1, 7, none), (35, 35, some 1), (35, 35, some 2), (35, 35, some 3), (35, 35, some 4)] M M1) (hl : RC M) : RC M1 := by
  obtain ⟨b, p, q, h1, h2, h3, h4, h5, h6⟩ := hl
  have e : cD M1 = cD M := cD_on (h.sub (by decide))
  exact ⟨b, p, q, by rw [e]; exact h1, h2, by rw [h.i 35 1 rfl]; exact h3, by rw [h.i 35 2 rfl]; exact h4, by rw [h.l 35 3 rfl]; exact h5, by rw [h.l 35 4 rfl]; exact h6⟩
theorem RK_on {M M1 : Mem} (h : on [(1, 7, none), (35, 35, none)] M M1) (hl : RK M) : RK M1 := by
  intro q
  rw [h.i 35 6 rfl, h.i 1 14 rfl] at q
  exact RC_on (h.sub (by decide)) (hl q)
theorem bpos_S {D : Dt} {g : Nat → Ln} {r : Nat} (h : SR lnLt lnOk g r (lnS D D.1 0)) : bpos (lnS D D.1 0) := by
  intro l hl
  obtain ⟨i, i1, rfl⟩ := (h.2.2 l).mpr hl
  have ok := h.2.1 i i1
  unfold btL
  have n1 := sq_nn (g i).1
  have n2 := sq_nn (g i).2.1
  rcases ok.1 with h | ⟨-, h⟩
  · have := sq_pos (show (g i).1 ≠ 0 by omega); omega
  · have := sq_pos (show (g i).2.1 ≠ 0 by omega); omega
theorem lN_of {x : Int64} {p : Nat} (h : x.toInt = (p : Int)) (hp : p < 2 ^ 63) : x = lN p := by
  rw [fa_eq64, h, pk_lT hp]
theorem k_rrefresh {M : Mem} {n p : Nat} (h : DI M n p) (hb : LB M) (hr : RK M) : ∃ M1, fX7_refresh M = some M1 ∧ RC M1 ∧ LB M1 ∧ M1.1 35 6 = M.1 1 14 ∧ st1 M M1 26 5 ∧ sm [(26, 26, some 4), (26, 26, some 5), (27, 29, none), (35, 35, none)] M M1 := by
  unfold fX7_refresh
  by_cases c : M.1 35 6 = M.1 1 14
  · rw [if_pos c]
    exact ⟨M, rfl, hr c, hb, c, Or.inl rfl, sm_rf⟩
  · rw [if_neg c, nx_eq]
    have s0 : sm [(35, 35, none)] M (sI M 35 6 (M.1 1 14)) := sm_rf.I (by rfl)
    have lb0 : LB (sI M 35 6 (M.1 1 14)) := ⟨LK_on (s0.on _ (by decide) (by decide)) hb.1, MK_on (s0.on _ (by decide) (by decide)) hb.2.1, KR_on (s0.on _ (by decide) (by decide)) hb.2.2⟩
    obtain ⟨M1, q1, q2, q3, q4, q5⟩ := k_lb (DI_on (s0.on _ (by decide) (by decide)) h) lb0
    have e14 : (sI M 35 6 (M.1 1 14)).1 1 14 = M.1 1 14 := by simp [sI]
    rw [e14] at q4
    rw [q1, Option.bind_some, nx_eq]
    generalize hM2 : sI M1 35 5 0 = M2
    have s2 : sm [(35, 35, none)] M1 M2 := by rw [← hM2]; exact sm_rf.I (by rfl)
    have lc2 : LC M2 := LC_on (s2.on _ (by decide) (by decide)) q2
    obtain ⟨r, r1, r2, r3, r4⟩ := id lc2
    have hp := bpos_S r4
    have hl : ∀ i, i < r → sm3 (rw3 M2 i) ∧ lnOk (lo M2 i) := fun i hi => ⟨r3 i hi, r4.2.1 i hi⟩
    obtain ⟨M3, p3, q3', w1, w2, w3, w4⟩ := k_settle (M := M2) (a := 0) r1 r2 (by omega) hl
    rw [show fX7_settleAt 0 0 M2 = some M3 from w1, Option.bind_some]
    have y0 : M3.1 35 5 = nI 0 := by
      rw [(w4.on [(35, 35, some 5)] (by decide) (by decide)).i 35 5 rfl, ← hM2]
      simp [sI]
      rfl
    have mx0 := mk_mx w3 r4.2.2
    have i0 : RI5 M2 M3 r (lnS (cD M2) (cD M2).1 0) 0 := by
      refine ⟨w4.up (by decide), 0, p3, q3', 0, w2, ?_, y0, Or.inr rfl⟩
      rw [if_pos rfl]
      refine ⟨by omega, mx0, fun a ha => ?_, fun a ha => absurd ha (by omega)⟩
      rw [show a = 0 by omega]
      exact mx_no mx0
    obtain ⟨M4, v1, v2, b, p, q, y, v3, v4, v5, v6⟩ := k_rloop (M := M2) r1 r2 hl hp r4.2.2 i0 fX7_refresh_93
    rw [v1]
    rw [if_neg (by decide)] at v4
    obtain ⟨x1, x2, x3, x4, x5⟩ := v3
    obtain ⟨⟨p0, p1⟩, q0, q1'⟩ := id x5
    obtain ⟨P, rfl⟩ := Int.eq_ofNat_of_zero_le p0
    obtain ⟨Q, rfl⟩ := Int.eq_ofNat_of_zero_le (show 0 ≤ q by omega)
    have eP : M4.2 35 3 = lN P := lN_of x3 (by omega)
    have eQ : M4.2 35 4 = lN Q := lN_of x4 (by omega)
    have g0 : 0 < Nat.gcd P Q := Nat.gcd_pos_of_pos_right _ (by omega)
    have gl : Nat.gcd P Q ≤ Q := Nat.le_of_dvd (by omega) (Nat.gcd_dvd_right P Q)
    have s4 : sm [(26, 26, some 4), (26, 26, some 5), (27, 29, none), (35, 35, none)] M M4 := ((((s0.up (by decide)).tr (q5.up (by decide))).tr (s2.up (by decide)))).tr (v2.up (by decide))
    have t14 : sm [(35, 35, none)] M1 M4 := s2.tr (v2.up (by decide))
    have e4 : cD M4 = cD M2 := cD_on (v2.on _ (by decide) (by decide))
    have fin : ∀ M5, sm [(35, 35, some 3), (35, 35, some 4)] M4 M5 → M5.2 35 3 = lN (P / Nat.gcd P Q) → M5.2 35 4 = lN (Q / Nat.gcd P Q) → RC M5 ∧ LB M5 ∧ M5.1 35 6 = M.1 1 14 ∧ st1 M M5 26 5 ∧ sm [(26, 26, some 4), (26, 26, some 5), (27, 29, none), (35, 35, none)] M M5 := by
      intro M5 s5 a3 a4
      have o5 := s5.on [(1, 7, none), (35, 35, some 1), (35, 35, some 2), (35, 35, some 6)] (by decide) (by decide)
      have e5 : cD M5 = cD M4 := cD_on (o5.sub (by decide))
      have t15 : sm [(35, 35, none)] M1 M5 := t14.tr (s5.up (by decide))
      refine ⟨⟨b, P, Q, by rw [e5, e4]; exact v4, x5, by rw [o5.i 35 1 rfl]; exact x1, by rw [o5.i 35 2 rfl]; exact x2, a3, a4⟩, ⟨LK_on (t15.on _ (by decide) (by decide)) q3.1, MK_on (t15.on _ (by decide) (by decide)) q3.2.1, KR_on (t15.on _ (by decide) (by decide)) q3.2.2⟩, ?_, Or.inr ?_, s4.tr (s5.up (by decide))⟩
      · rw [o5.i 35 6 rfl, (v2.on [(35, 35, some 6)] (by decide) (by decide)).i 35 6 rfl, ← hM2]
        have : (sI M1 35 5 0).1 35 6 = M1.1 35 6 := by simp [sI]
        rw [this, (q5.on [(35, 35, none)] (by decide) (by decide)).i 35 6 rfl]
        simp [sI]
      · rw [(t15.on [(26, 26, none)] (by decide) (by decide)).i 26 5 rfl]; exact q4
    unfold fX7_refresh_93 fX7_refresh_131
    have aP : (M4.2 35 3).toInt.natAbs = P := by rw [x3]; rfl
    have aQ : (M4.2 35 4).toInt.natAbs = Q := by rw [x4]; rfl
    rw [k_common M4 (by omega) (by omega), Option.bind_some, aP, aQ, eP]
    have le1 : (lg_cmp (lN (Nat.gcd P Q)) 1 ≤ 0) ↔ Nat.gcd P Q ≤ 1 := by
      rw [lg_le]
      exact pk_lLE (b := 1) (by omega) (by decide)
    by_cases c1 : Nat.gcd P Q ≤ 1
    · rw [if_pos (le1.mpr c1)]
      have e : Nat.gcd P Q = 1 := by omega
      exact ⟨M4, rfl, fin M4 sm_rf (by rw [e, Nat.div_one]; exact eP) (by rw [e, Nat.div_one]; exact eQ)⟩
    · have gn : ¬ lN (Nat.gcd P Q) = 0 := fun w => by
        have := (pk_lEQ (b := 0) (show Nat.gcd P Q < 2 ^ 63 by omega) (by decide)).mp w
        omega
      rw [if_neg (fun w => c1 (le1.mp w)), if_pos gn, nx_eq, if_pos gn, nx_eq]
      refine ⟨_, rfl, fin _ ((sm_rf.Lg (by rfl)).Lg (by rfl)) ?_ ?_⟩
      · rw [← pk_lDiv (by omega) g0 (by omega)]
        simp [sL]
      · rw [← pk_lDiv (by omega) g0 (by omega), ← eQ]
        simp [sL]
/-! the reference -/
def rgFa : Rg := [(47, 47, some 33), (47, 47, some 34)]
theorem e_far {M : Mem} {r a : Nat} (hr : r ≤ 105) (h27 : M.1 47 27 = nI r) (ha : a < 10000) (hl : ∀ i, i < r → sm3 (rw3R M i) ∧ lnOk (loR M i)) : ∃ M1 p q, fX11_far (nI (a / 100)) (nI (a % 100)) M = some M1 ∧ (M1.2 47 33).toInt = p ∧ (M1.2 47 34).toInt = q ∧ pqS p q ∧ isMk (loR M) r a p q ∧ sm rgFa M M1 := by
  unfold fX11_far
  simp only [nx_eq]
  generalize hS : sL (sL M 47 33 0) 47 34 1 = S
  have sS : sm rgFa M S := by rw [← hS]; exact (sm_rf.Lg (by rfl)).Lg (by rfl)
  have r3 : (S.2 47 33).toInt = 0 := by rw [← hS]; simp [sL]
  have r4 : (S.2 47 34).toInt = 1 := by rw [← hS]; simp [sL]
  have hh := for_ex (σ := Mem) (fun f i s => fX11_far_12 fX11_far_129 f (nI (a / 100)) (nI (a % 100)) i s) (fun s => some s) r
    (fun i X => sm rgFa M X ∧ ∃ p q, (X.2 47 33).toInt = p ∧ (X.2 47 34).toInt = q ∧ pqS p q ∧ isMk (loR M) i a p q) ?_ ?_ S ⟨sS, 0, 1, r3, r4, ⟨by omega, by omega⟩, mk_0 _ _⟩ FU (FU_gt (by omega))
  · obtain ⟨M1, q1, q2, p, q, q3, q4, q5, q6⟩ := hh
    exact ⟨M1, p, q, q1, q3, q4, q5, q6, q2⟩
  · rintro f k X hk ⟨g1, p, q, w3, w4, w5, g3⟩
    have ik := inb_nI (show k < 105 by omega) (by decide)
    have o := g1.on [(47, 47, some 27), (79, 81, none)] (by decide) (by decide)
    have er : rw3R X k = rw3R M k := by unfold rw3R; rw [o.i 79 k rfl, o.i 80 k rfl, o.i 81 k rfl]
    obtain ⟨t1, t2, t3⟩ := top_i (hl k hk).1 ha
    obtain ⟨b1, b2, b3⟩ := bot_i (hl k hk).1 (hl k hk).2
    obtain ⟨⟨p1, p2⟩, q1, q2⟩ := id w5
    have m1 : (top3 (rw3R X k) a * X.2 47 34).toInt = tpL (loR M k) a * q := by
      rw [er, mulS (by omega) (by omega) (by omega) (by omega), t1, w4]; rfl
    have m2 : (X.2 47 33 * bot3 (rw3R X k)).toInt = p * btL (loR M k) := by
      rw [er, mulS (by omega) (by omega) (by omega) (by omega), b1, w3]; rfl
    have gt : (0 < lg_cmp (top3 (rw3R X k) a * X.2 47 34) (X.2 47 33 * bot3 (rw3R X k))) ↔ p * btL (loR M k) < tpL (loR M k) a * q := by
      rw [lg_gt, fa_lt64, m1, m2]
    have hun : fX11_far_12 fX11_far_129 (f + 1) (nI (a / 100)) (nI (a % 100)) (nI k) X = if p * btL (loR M k) < tpL (loR M k) a * q then fX11_far_12 fX11_far_129 f (nI (a / 100)) (nI (a % 100)) (nI (k + 1)) (sL (sL X 47 33 (top3 (rw3R X k) a)) 47 34 (bot3 (rw3R X k))) else fX11_far_12 fX11_far_129 f (nI (a / 100)) (nI (a % 100)) (nI (k + 1)) X := by
      rw [fX11_far_12, o.i 47 27 rfl, h27, if_neg (nI_ge hk (by omega))]
      unfold fX11_far_123
      simp only [ik, if_true, ix_nI (show k < 2147483648 by omega), nx_eq, nI_s, ← gt]
      rfl
    by_cases c : p * btL (loR M k) < tpL (loR M k) a * q
    · rw [if_pos c] at hun
      refine ⟨_, hun, (g1.Lg (by rfl)).Lg (by rfl), tpL (loR M k) a, btL (loR M k), ?_, ?_, ⟨⟨t2, t3⟩, b2, b3⟩, mk_new g3 (fun i hi => (bot_i (hl i (by omega)).1 (hl i (by omega)).2).2.1) (by omega)⟩
      · have : (sL (sL X 47 33 (top3 (rw3R X k) a)) 47 34 (bot3 (rw3R X k))).2 47 33 = top3 (rw3R X k) a := by simp [sL]
        rw [this, er]; exact t1
      · have : (sL (sL X 47 33 (top3 (rw3R X k) a)) 47 34 (bot3 (rw3R X k))).2 47 34 = bot3 (rw3R X k) := by simp [sL]
        rw [this, er]; exact b1
    · rw [if_neg c] at hun
      exact ⟨X, hun, g1, p, q, w3, w4, w5, mk_keep g3 (by omega)⟩
  · rintro f X ⟨g1, -⟩
    have o := g1.on [(47, 47, some 27)] (by decide) (by decide)
    show fX11_far_12 _ (f + 1) _ _ (nI r) X = _
    rw [fX11_far_12, o.i 47 27 rfl, h27, if_pos (nI_le (Nat.le_refl _) (by omega))]
    rfl
theorem irm100 {a : Nat} (h : a < 2 ^ 31) : irm (nI a) 100 = nI (a % 100) := pk_rem h (d := 100) (by decide) (by decide)
theorem div100 {a : Nat} (h : a < 2 ^ 31) : nI a / 100 = nI (a / 100) := pk_div h (d := 100) (by decide) (by decide)
theorem e_rloop {M : Mem} {r : Nat} {L : Ln → Prop} (x : Int32) (hr : r ≤ 105) (h27 : M.1 47 27 = nI r) (hl : ∀ i, i < r → sm3 (rw3R M i) ∧ lnOk (loR M i)) (hp : bpos L) (hL : ∀ y, (∃ i, i < r ∧ loR M i = y) ↔ L y) {p0 q0 : Int64} (hpq : pqS p0.toInt q0.toInt) (h0 : isMx L 0 p0.toInt q0.toInt) (K : Int32 → Int32 → Int64 → Int64 → Mem → Option (Int32 × Mem)) :
    ∃ b p q X, fX11_round_47 K FU x 0 p0 q0 1 M = K x (nI b) p q X ∧ pqS p.toInt q.toInt ∧ bstI L 10000 b p.toInt q.toInt ∧ sm rgFa M X := by
  have e10 : (10000 : Int32) = nI 10000 := rfl
  have hh := for_exF (σ := Int32 × Int64 × Int64 × Mem) (fun f i s => fX11_round_47 K f x s.1 s.2.1 s.2.2.1 i s.2.2.2) (fun s => K x s.1 s.2.1 s.2.2.1 s.2.2.2) 1 10000 (by omega)
    (fun a s => sm rgFa M s.2.2.2 ∧ ∃ b, s.1 = nI b ∧ pqS s.2.1.toInt s.2.2.1.toInt ∧ bstI L a b s.2.1.toInt s.2.2.1.toInt) ?_ ?_ (0, p0, q0, M) ⟨sm_rf, 0, rfl, hpq, by omega, h0, fun a ha => by rw [show a = 0 by omega]; exact mx_no h0, fun a ha => absurd ha (by omega)⟩ FU (by have := FU_gt (n := 10000) (by omega); omega)
  · obtain ⟨⟨s1, p, q, X⟩, k1, k2, b, k3, k4, k5⟩ := hh
    exact ⟨b, p, q, X, by rw [← show s1 = nI b from k3]; exact k1, k4, k5, k2⟩
  · rintro f a ⟨s1, p, q, X⟩ ha1 ha2 ⟨g1, b, g2, g3, g4⟩
    have g1 : sm rgFa M X := g1
    have g2 : s1 = nI b := g2
    have g3 : pqS p.toInt q.toInt := g3
    have g4 : bstI L a b p.toInt q.toInt := g4
    have o := g1.on [(47, 47, some 27), (79, 81, none)] (by decide) (by decide)
    have el : loR X = loR M := loR_on (o.sub (by decide))
    have er : ∀ k, rw3R X k = rw3R M k := fun k => by unfold rw3R; rw [o.i 79 k rfl, o.i 80 k rfl, o.i 81 k rfl]
    obtain ⟨X1, P, Q, w1, w2, w3, w4, w5, w6⟩ := e_far (M := X) (a := a) hr ((o.i 47 27 rfl).trans h27) ha2 (fun i hi => by rw [er, el]; exact hl i hi)
    rw [el] at w5
    have mx := mk_mx w5 hL
    obtain ⟨⟨c1, c2⟩, c3, c4⟩ := id g3
    obtain ⟨⟨d1, d2⟩, d3, d4⟩ := id w4
    have m1 : (X1.2 47 33 * q).toInt = P * q.toInt := by
      rw [mulS (by omega) (by omega) (by omega) (by omega), w2]
    have m2 : (p * X1.2 47 34).toInt = p.toInt * Q := by
      rw [mulS (by omega) (by omega) (by omega) (by omega), w3]
    have lt : (lg_cmp (X1.2 47 33 * q) (p * X1.2 47 34) < 0) ↔ blw1 L a p.toInt q.toInt := by
      rw [lg_lt, fa_lt64, m1, m2]
      exact mx_bl hp mx (by omega)
    have hun : fX11_round_47 K (f + 1) x s1 p q (nI a) X = if lg_cmp (X1.2 47 33 * q) (p * X1.2 47 34) < 0 then fX11_round_47 K f x (nI a) (X1.2 47 33) (X1.2 47 34) (nI (a + 1)) X1 else fX11_round_47 K f x s1 p q (nI (a + 1)) X1 := by
      rw [fX11_round_47, e10, if_neg (nI_ge ha2 (by omega)), irm100 (by omega), div100 (by omega), w1, Option.bind_some]
      unfold fX11_round_103
      simp only [nx_eq, nI_s]
    by_cases c : lg_cmp (X1.2 47 33 * q) (p * X1.2 47 34) < 0
    · rw [if_pos c] at hun
      refine ⟨(nI a, X1.2 47 33, X1.2 47 34, X1), hun, g1.tr w6, a, rfl, ?_, ?_⟩
      · show pqS (X1.2 47 33).toInt (X1.2 47 34).toInt
        rw [w2, w3]; exact w4
      · show bstI L (a + 1) a (X1.2 47 33).toInt (X1.2 47 34).toInt
        rw [w2, w3]
        exact bst_yes hp g4 (lt.mp c) mx
    · rw [if_neg c] at hun
      exact ⟨(s1, p, q, X1), hun, g1.tr w6, b, g2, g3, bst_no g4 (fun w => c (lt.mpr w))⟩
  · rintro f ⟨s1, p, q, X⟩ -
    show fX11_round_47 K (f + 1) x s1 p q (nI 10000) X = _
    rw [fX11_round_47, e10, if_pos (nI_le (Nat.le_refl _) (by omega))]
def rgRd : Rg := [(26, 26, some 4), (26, 26, some 5), (27, 29, none), (35, 35, none), (47, 47, some 27), (47, 47, some 28), (47, 47, some 29), (79, 84, none), (47, 47, some 33), (47, 47, some 34)]
theorem s_round {M : Mem} {n p : Nat} (h : DI M n p) (hb : LB M) (hr : RK M) (a : Int32) : ∃ r M1 M2, fX10_round a M = some (r, M1) ∧ fX11_round a M1 = some (r, M2) ∧ sm rgRd M M2 ∧ LB M2 ∧ RK M2 ∧ st1 M M2 26 5 ∧ st1 M M2 35 6 := by
  have z : (0 : Int32).toInt = 0 := rfl
  have three : (3 : Int32).toInt = 3 := rfl
  have z64 : (0 : Int64).toInt = 0 := rfl
  have t64 : (3 : Int64).toInt = 3 := rfl
  have hn := h.n15
  have hin : ∀ M : Mem, fX11_in M a.toInt64 0 3 = some (bI (inN a 4)) := by
    intro M
    rw [e_in]
    congr 1
    congr 1
    unfold inN
    simp only [fa_le64, Int32.toInt_toInt64, z64, t64]
    by_cases c1 : 0 ≤ a.toInt <;> by_cases c2 : a.toInt < 4
    · simp [c1, c2]; omega
    · simp [c1, c2]; omega
    · simp [c1, c2]
    · simp [c1, c2]
  have n0 : ∀ m : Nat, m ≤ 15 → (nI m = 0 ↔ m = 0) := by
    intro m hm
    rw [fa_eq, nI_toInt (by omega), z]
    omega
  by_cases c0 : n = 0
  · refine ⟨-1, M, M, ?_, ?_, sm_rf, hb, hr, Or.inl rfl, Or.inl rfl⟩
    · unfold fX10_round fX10_round_19
      rw [h.2.1.1, if_pos ((n0 n hn).mpr c0)]
    · unfold fX11_round fX11_round_19
      rw [e_voters, Option.bind_some, h.2.1.2.2.1, if_pos ((n0 n hn).mpr c0)]
  · have c0' : ¬ nI n = 0 := fun w => c0 ((n0 n hn).mp w)
    cases hi : inN a 4 with
    | false =>
      refine ⟨-1, M, M, ?_, ?_, sm_rf, hb, hr, Or.inl rfl, Or.inl rfl⟩
      · simp only [inN, Bool.and_eq_false_iff, decide_eq_false_iff_not] at hi
        unfold fX10_round fX10_round_19
        rw [h.2.1.1, if_neg c0']
        by_cases c2 : a < 0
        · rw [if_pos c2]
        · rw [if_neg c2]
          have c3 : ¬ a ≤ 3 := by
            rw [fa_le, three]
            rw [fa_lt, z] at c2
            omega
          rw [if_neg c3]
      · unfold fX11_round fX11_round_19
        rw [e_voters, Option.bind_some, h.2.1.2.2.1, if_neg c0', hin, hi]
        rfl
    | true =>
      obtain ⟨j, hj, rfl⟩ := inN_of hi (by decide)
      obtain ⟨M1, q1, q2, q3, q4, q5, q6⟩ := k_rrefresh h hb hr
      have h1 : DI M1 n p := DI_on (q6.on _ (by decide) (by decide)) h
      obtain ⟨M2, t1, t2, t3, t4, t5⟩ := e_lb h1 q3
      have h2 : DI M2 n p := DI_on (t5.on _ (by decide) (by decide)) h1
      obtain ⟨r, r1, r2, r3, r4⟩ := id t2
      have hp := bpos_S r4
      have hl : ∀ i, i < r → sm3 (rw3R M2 i) ∧ lnOk (loR M2 i) := fun i hi => ⟨r3 i hi, r4.2.1 i hi⟩
      obtain ⟨M3, p0, q0, f1, f2, f3, f4, f5, f6⟩ := e_far (M := M2) (a := 0) r1 r2 (by omega) hl
      have o3 := f6.on [(47, 47, some 27), (79, 81, none)] (by decide) (by decide)
      have el3 : loR M3 = loR M2 := loR_on (o3.sub (by decide))
      have er3 : ∀ k, rw3R M3 k = rw3R M2 k := fun k => by unfold rw3R; rw [o3.i 79 k rfl, o3.i 80 k rfl, o3.i 81 k rfl]
      obtain ⟨b, pp, qq, X, g1, g2, g3, g4⟩ := e_rloop (M := M3) (L := lnS (cD M2) (cD M2).1 0) (nI j) r1 ((o3.i 47 27 rfl).trans r2) (fun i hi => by rw [er3, el3]; exact hl i hi) hp (by rw [el3]; exact r4.2.2) (p0 := M3.2 47 33) (q0 := M3.2 47 34) (by rw [f2, f3]; exact f4) (by rw [f2, f3]; exact mk_mx f5 r4.2.2) fX11_round_109
      have u2 : fX11_round (nI j) M1 = fX11_round_109 (nI j) (nI b) pp qq X := by
        unfold fX11_round
        rw [e_voters, Option.bind_some, h1.2.1.2.2.1, if_neg c0', hin, hi, Option.bind_some, if_neg (by decide), t1, Option.bind_some, show fX11_far 0 0 M2 = some M3 from f1, Option.bind_some, nx_eq, nx_eq]
        exact g1
      obtain ⟨b1, P1, Q1, k1, k2, k3, k4, k5, k6⟩ := q2
      have e2 : cD M2 = cD M1 := cD_on (t5.on _ (by decide) (by decide))
      rw [e2] at g3 hp
      obtain ⟨eb, ex⟩ := bst_one hp k1 g3
      subst eb
      obtain ⟨⟨a1, a2⟩, a3, a4⟩ := id k2
      obtain ⟨⟨d1, d2⟩, d3, d4⟩ := id g2
      obtain ⟨P2, eP⟩ := Int.eq_ofNat_of_zero_le d1
      obtain ⟨Q2, eQ⟩ := Int.eq_ofNat_of_zero_le (show 0 ≤ qq.toInt by omega)
      rw [eP, eQ] at ex
      have exN : P1 * Q2 = P2 * Q1 := by exact_mod_cast ex
      obtain ⟨l1, l2⟩ := low_eq (by omega) (by omega) exN
      have pP : pp = lN P2 := lN_of eP (by omega)
      have qQ : qq = lN Q2 := lN_of eQ (by omega)
      have aP : pp.toInt.natAbs = P2 := by rw [eP]; rfl
      have aQ : qq.toInt.natAbs = Q2 := by rw [eQ]; rfl
      have gp : 0 < Nat.gcd P2 Q2 := Nat.gcd_pos_of_pos_right _ (by omega)
      have gl : Nat.gcd P2 Q2 ≤ Q2 := Nat.le_of_dvd (by omega) (Nat.gcd_dvd_right P2 Q2)
      have gn : ¬ lN (Nat.gcd P2 Q2) = 0 := fun w => by
        have := (pk_lEQ (b := 0) (show Nat.gcd P2 Q2 < 2 ^ 63 by omega) (by decide)).mp w
        omega
      have bl := k1.1
      have u1 : fX10_round (nI j) M = (if nI j = 0 then some (M1.1 35 1, M1) else (if nI j = 1 then some (M1.1 35 2, M1) else (if nI j = 2 then some ((M1.2 35 3).toInt32, M1) else some ((M1.2 35 4).toInt32, M1)))) := by
        unfold fX10_round
        rw [h.2.1.1, if_neg c0', if_neg (show ¬ nI j < 0 by rw [fa_lt, nI_toInt (by omega), z]; omega), if_pos (show nI j ≤ 3 by rw [fa_le, nI_toInt (by omega), three]; omega), q1, Option.bind_some]
      have u3 : fX11_round_109 (nI j) (nI b1) pp qq X = (if nI j = 0 then some (M1.1 35 1, X) else (if nI j = 1 then some (M1.1 35 2, X) else (if nI j = 2 then some ((M1.2 35 3).toInt32, X) else some ((M1.2 35 4).toInt32, X)))) := by
        unfold fX11_round_109 fX11_round_151 fX11_round_155
        rw [e_gcd X (by omega) (by omega), Option.bind_some, aP, aQ, if_pos gn, if_pos gn, irm100 (by omega), div100 (by omega), k3, k4, k5, k6, l1, l2, pP, qQ, pk_lDiv (by omega) gp (by omega), pk_lDiv (by omega) gp (by omega)]
      have s23 : sm [(47, 47, some 33), (47, 47, some 34)] M2 X := f6.tr g4
      have lbX : LB X := ⟨LK_on (s23.on _ (by decide) (by decide)) t4.1, MK_on (s23.on _ (by decide) (by decide)) t4.2.1, KR_on (s23.on _ (by decide) (by decide)) t4.2.2⟩
      have s12 : sm [(47, 47, some 27), (47, 47, some 28), (47, 47, some 29), (79, 84, none), (47, 47, some 33), (47, 47, some 34)] M1 X := (t5.up (by decide)).tr (s23.up (by decide))
      have rcX : RC X := RC_on (s12.on _ (by decide) (by decide)) ⟨b1, P1, Q1, k1, k2, k3, k4, k5, k6⟩
      have o12 := s12.on [(26, 26, none), (35, 35, none)] (by decide) (by decide)
      have fin : ∀ v, fX10_round (nI j) M = some (v, M1) → fX11_round (nI j) M1 = some (v, X) → ∃ r M1 M2, fX10_round (nI j) M = some (r, M1) ∧ fX11_round (nI j) M1 = some (r, M2) ∧ sm rgRd M M2 ∧ LB M2 ∧ RK M2 ∧ st1 M M2 26 5 ∧ st1 M M2 35 6 := by
        intro v v1 v2
        refine ⟨v, M1, X, v1, v2, (q6.up (by decide)).tr (s12.up (by decide)), lbX, fun _ => rcX, ?_, Or.inr ?_⟩
        · unfold st1
          rw [o12.i 26 5 rfl]; exact q5
        · rw [o12.i 35 6 rfl]; exact q4
      rw [u3] at u2
      by_cases j0 : nI j = 0
      · rw [if_pos j0] at u1 u2; exact fin _ u1 u2
      · rw [if_neg j0] at u1 u2
        by_cases j1 : nI j = 1
        · rw [if_pos j1] at u1 u2; exact fin _ u1 u2
        · rw [if_neg j1] at u1 u2
          by_cases j2 : nI j = 2
          · rw [if_pos j2] at u1 u2; exact fin _ u1 u2
          · rw [if_neg j2] at u1 u2; exact fin _ u1 u2
