/-! places as whole numbers: x/n, y/n -/
def plOk (P : Ln) : Prop := 0 < P.2.2 ∧ Nat.gcd (Nat.gcd P.1.natAbs P.2.1.natAbs) P.2.2.natAbs = 1
def plLt (P Q : Ln) : Prop := P.1 * Q.2.2 < Q.1 * P.2.2 ∨ (P.1 * Q.2.2 = Q.1 * P.2.2 ∧ P.2.1 * Q.2.2 < Q.2.1 * P.2.2)
theorem pl_irr (P : Ln) : ¬ plLt P P := by
  unfold plLt
  omega
theorem mul_le_tr2 {a b c d e f : Int} (ha : 0 < a) (hc : 0 < c) (he : 0 < e) (h1 : b * c ≤ d * a) (h2 : d * e ≤ f * c) : b * e ≤ f * a := by
  have k1 : b * c * e ≤ d * a * e := Int.mul_le_mul_of_nonneg_right h1 (by omega)
  have k2 : d * e * a ≤ f * c * a := Int.mul_le_mul_of_nonneg_right h2 (by omega)
  have k3 : (b * e) * c ≤ (f * a) * c := by grind
  exact Int.le_of_mul_le_mul_right k3 hc
theorem pl_tr {P Q R : Ln} (hP : plOk P) (hQ : plOk Q) (hR : plOk R) (h1 : plLt P Q) (h2 : plLt Q R) : plLt P R := by
  have p := hP.1
  have q := hQ.1
  have r := hR.1
  rcases h1 with h1 | ⟨h1, h3⟩
  · left
    refine mul_lt_tr p q r h1 ?_
    rcases h2 with h2 | ⟨h2, -⟩ <;> omega
  · rcases h2 with h2 | ⟨h2, h4⟩
    · left
      exact mul_le_tr p q r (by omega) h2
    · right
      refine ⟨Int.le_antisymm (mul_le_tr2 (d := Q.1) p q r (by omega) (by omega)) (mul_le_tr2 (d := Q.1) r q p (by omega) (by omega)), mul_lt_tr p q r h3 (by omega)⟩
theorem pl_eq {P Q : Ln} (hP : plOk P) (hQ : plOk Q) (h1 : P.1 * Q.2.2 = Q.1 * P.2.2) (h2 : P.2.1 * Q.2.2 = Q.2.1 * P.2.2) : P = Q := by
  have dv : ∀ {P Q : Ln}, plOk P → plOk Q → P.1 * Q.2.2 = Q.1 * P.2.2 → P.2.1 * Q.2.2 = Q.2.1 * P.2.2 → P.2.2.natAbs ∣ Q.2.2.natAbs := by
    intro P Q hP hQ h1 h2
    have a1 : P.1.natAbs * Q.2.2.natAbs = Q.1.natAbs * P.2.2.natAbs := by rw [← Int.natAbs_mul, ← Int.natAbs_mul, h1]
    have a2 : P.2.1.natAbs * Q.2.2.natAbs = Q.2.1.natAbs * P.2.2.natAbs := by rw [← Int.natAbs_mul, ← Int.natAbs_mul, h2]
    have d1 : P.2.2.natAbs ∣ P.1.natAbs * Q.2.2.natAbs := ⟨Q.1.natAbs, by rw [a1, Nat.mul_comm]⟩
    have d2 : P.2.2.natAbs ∣ P.2.1.natAbs * Q.2.2.natAbs := ⟨Q.2.1.natAbs, by rw [a2, Nat.mul_comm]⟩
    have d3 : P.2.2.natAbs ∣ P.2.2.natAbs * Q.2.2.natAbs := ⟨_, rfl⟩
    have d4 := Nat.dvd_gcd (Nat.dvd_gcd d1 d2) d3
    rw [Nat.gcd_mul_right, Nat.gcd_mul_right, hP.2, Nat.one_mul] at d4
    exact d4
  have e : P.2.2.natAbs = Q.2.2.natAbs := Nat.dvd_antisymm (dv hP hQ h1 h2) (dv hQ hP h1.symm h2.symm)
  have p := hP.1
  have q := hQ.1
  have e2 : P.2.2 = Q.2.2 := by omega
  rw [e2] at h1 h2
  apply Prod.ext
  · exact Int.eq_of_mul_eq_mul_right (by omega) h1
  · apply Prod.ext
    · exact Int.eq_of_mul_eq_mul_right (by omega) h2
    · exact e2
theorem pl_tri {P Q : Ln} (hP : plOk P) (hQ : plOk Q) : plLt P Q ∨ P = Q ∨ plLt Q P := by
  by_cases c1 : P.1 * Q.2.2 < Q.1 * P.2.2
  · exact Or.inl (Or.inl c1)
  · by_cases c2 : Q.1 * P.2.2 < P.1 * Q.2.2
    · exact Or.inr (Or.inr (Or.inl c2))
    · have e : P.1 * Q.2.2 = Q.1 * P.2.2 := by omega
      by_cases c3 : P.2.1 * Q.2.2 < Q.2.1 * P.2.2
      · exact Or.inl (Or.inr ⟨e, c3⟩)
      · by_cases c4 : Q.2.1 * P.2.2 < P.2.1 * Q.2.2
        · exact Or.inr (Or.inr (Or.inr ⟨e.symm, c4⟩))
        · exact Or.inr (Or.inl (pl_eq hP hQ e (by omega)))
/-! halves seen from a place -/
def hT (dx dy : Nat → Int) (v u : Nat) : Int := dx v * dy u - dy v * dx u
def hA (dx dy : Nat → Int) (v u : Nat) : Int := dx v * dx u + dy v * dy u
def hH (dx dy : Nat → Int) (a b : Int) (u : Nat) : Int := a * dx u + b * dy u
theorem h_far (dx dy : Nat → Int) (a b : Int) : ∀ m, (∀ u, u < m → ¬ 0 < hH dx dy a b u) ∨ ∃ v, v < m ∧ 0 < hH dx dy a b v ∧ ∀ u, u < m → 0 < hH dx dy a b u → 0 ≤ hT dx dy v u
  | 0 => Or.inl (fun u h => absurd h (by omega))
  | m + 1 => by
    by_cases hm : 0 < hH dx dy a b m
    · right
      rcases h_far dx dy a b m with h | ⟨v, h1, h2, h3⟩
      · refine ⟨m, by omega, hm, fun u hu h4 => ?_⟩
        by_cases e : u = m
        · rw [e]; unfold hT; rw [Int.mul_comm]; omega
        · exact absurd h4 (h u (by omega))
      · by_cases c : 0 ≤ hT dx dy v m
        · refine ⟨v, by omega, h2, fun u hu h4 => ?_⟩
          by_cases e : u = m
          · rw [e]; exact c
          · exact h3 u (by omega) h4
        · refine ⟨m, by omega, hm, fun u hu h4 => ?_⟩
          by_cases e : u = m
          · rw [e]; unfold hT; rw [Int.mul_comm]; omega
          · have h5 := h3 u (by omega) h4
            have h6 : 0 < hT dx dy m v := by
              have : hT dx dy m v = - hT dx dy v m := by unfold hT; grind
              omega
            have id1 : hH dx dy a b v * hT dx dy m u = hH dx dy a b u * hT dx dy m v + hH dx dy a b m * hT dx dy v u := by
              unfold hT hH; grind
            have p1 : 0 ≤ hH dx dy a b u * hT dx dy m v := Int.mul_nonneg (by omega) (by omega)
            have p2 : 0 ≤ hH dx dy a b m * hT dx dy v u := Int.mul_nonneg (by omega) h5
            have p3 : 0 ≤ hH dx dy a b v * hT dx dy m u := by omega
            by_cases q : 0 ≤ hT dx dy m u
            · exact q
            · have := Int.mul_pos h2 (show 0 < - hT dx dy m u by omega)
              rw [Int.mul_neg] at this
              omega
    · rcases h_far dx dy a b m with h | ⟨v, h1, h2, h3⟩
      · left
        intro u hu
        by_cases e : u = m
        · rw [e]; exact hm
        · exact h u (by omega)
      · right
        refine ⟨v, by omega, h2, fun u hu h4 => ?_⟩
        by_cases e : u = m
        · rw [e] at h4; exact absurd h4 hm
        · exact h3 u (by omega) h4
theorem sq_pos {x : Int} (h : x ≠ 0) : 0 < x * x := by
  by_cases c : 0 < x
  · exact Int.mul_pos c c
  · have := Int.mul_pos (show 0 < -x by omega) (show 0 < -x by omega)
    rw [Int.neg_mul_neg] at this
    exact this
theorem sq_nn (x : Int) : 0 ≤ x * x := by
  by_cases c : x = 0
  · rw [c]; decide
  · exact Int.le_of_lt (sq_pos c)
def sW (w : Nat → Nat) (q : Nat → Prop) [DecidablePred q] (n : Nat) : Nat := fb_sm (fun u => if q u then w u else 0) n
theorem h_half {dx dy : Nat → Int} {w : Nat → Nat} {n W : Nat} (h : ∀ v, v < n → ¬ (dx v = 0 ∧ dy v = 0) → 2 * (sW w (fun u => 0 < hT dx dy v u) n + sW w (fun u => hT dx dy v u = 0 ∧ 0 < hA dx dy v u) n) ≤ W) (a b : Int) : 2 * sW w (fun u => 0 < hH dx dy a b u) n ≤ W := by
  rcases h_far dx dy a b n with g | ⟨v, h1, h2, h3⟩
  · have : sW w (fun u => 0 < hH dx dy a b u) n = 0 := by
      have h0 := fb_sm_bound (f := fun u => if 0 < hH dx dy a b u then w u else 0) (c := 0) (n := n) (fun k hk => by rw [if_neg (g k hk)]; exact Nat.le_refl 0)
      rw [Nat.mul_zero] at h0
      exact Nat.le_zero.mp h0
    omega
  · have nz : ¬ (dx v = 0 ∧ dy v = 0) := by
      rintro ⟨e1, e2⟩
      unfold hH at h2
      rw [e1, e2] at h2
      omega
    have key : sW w (fun u => 0 < hH dx dy a b u) n ≤ sW w (fun u => 0 < hT dx dy v u) n + sW w (fun u => hT dx dy v u = 0 ∧ 0 < hA dx dy v u) n := by
      unfold sW
      rw [← fb_sm_add]
      refine fb_sm_le (fun u hu => ?_)
      by_cases c : 0 < hH dx dy a b u
      · have h4 := h3 u hu c
        by_cases c2 : 0 < hT dx dy v u
        · rw [if_pos c, if_pos c2]; omega
        · have e0 : hT dx dy v u = 0 := by omega
          have id2 : (dx v * dx v + dy v * dy v) * hH dx dy a b u = hA dx dy v u * hH dx dy a b v + hT dx dy v u * (b * dx v - a * dy v) := by
            unfold hT hA hH; grind
          rw [e0, Int.zero_mul, Int.add_zero] at id2
          have sq : 0 < dx v * dx v + dy v * dy v := by
            by_cases z : dx v = 0
            · have z2 : dy v ≠ 0 := fun q => nz ⟨z, q⟩
              have := sq_pos z2
              have := sq_nn (dx v)
              omega
            · have := sq_pos z
              have := sq_nn (dy v)
              omega
          have p1 := Int.mul_pos sq c
          have c3 : 0 < hA dx dy v u := by
            by_cases q : 0 < hA dx dy v u
            · exact q
            · have := Int.mul_nonneg (show 0 ≤ - hA dx dy v u by omega) (show 0 ≤ hH dx dy a b v by omega)
              rw [Int.neg_mul] at this
              omega
          rw [if_pos c, if_neg c2, if_pos ⟨e0, c3⟩]; omega
      · rw [if_neg c]; omega
    have := h v h1 nz
    omega
/-! such places -/
def dxP (xs : Nat → Int) (P : Ln) (u : Nat) : Int := P.2.2 * xs u - P.1
def dyP (ys : Nat → Int) (P : Ln) (u : Nat) : Int := P.2.2 * ys u - P.2.1
def halfAt (xs ys : Nat → Int) (w : Nat → Nat) (n : Nat) (P : Ln) : Prop := ∀ a b, 2 * sW w (fun u => 0 < hH (dxP xs P) (dyP ys P) a b u) n ≤ fb_sm w n
def onL (l P : Ln) : Prop := l.1 * P.1 + l.2.1 * P.2.1 = l.2.2 * P.2.2
theorem h_strip {xs ys : Nat → Int} {w : Nat → Nat} {n v : Nat} {P Q l : Ln} (hP : halfAt xs ys w n P) (hQ : halfAt xs ys w n Q) (p0 : 0 < P.2.2) (q0 : 0 < Q.2.2) (hv : v < n) (hw : 0 < w v) (hl : l.1 * xs v + l.2.1 * ys v = l.2.2) (h1 : l.2.2 * P.2.2 < l.1 * P.1 + l.2.1 * P.2.1) (h2 : l.1 * Q.1 + l.2.1 * Q.2.1 < l.2.2 * Q.2.2) : False := by
  have a1 := hP (-l.1) (-l.2.1)
  have a2 := hQ l.1 l.2.1
  have e := fb_sm_upd w (2 * w v) (i := v) (n := n) hv
  have key : fb_sm (fun k => if k = v then 2 * w v else w k) n ≤ sW w (fun u => 0 < hH (dxP xs P) (dyP ys P) (-l.1) (-l.2.1) u) n + sW w (fun u => 0 < hH (dxP xs Q) (dyP ys Q) l.1 l.2.1 u) n := by
    unfold sW
    rw [← fb_sm_add]
    refine fb_sm_le (fun u hu => ?_)
    have i1 : hH (dxP xs P) (dyP ys P) (-l.1) (-l.2.1) u = (l.1 * P.1 + l.2.1 * P.2.1) - (l.1 * xs u + l.2.1 * ys u) * P.2.2 := by
      unfold hH dxP dyP; grind
    have i2 : hH (dxP xs Q) (dyP ys Q) l.1 l.2.1 u = (l.1 * xs u + l.2.1 * ys u) * Q.2.2 - (l.1 * Q.1 + l.2.1 * Q.2.1) := by
      unfold hH dxP dyP; grind
    have b1 : l.1 * xs u + l.2.1 * ys u ≤ l.2.2 → 0 < hH (dxP xs P) (dyP ys P) (-l.1) (-l.2.1) u := by
      intro q
      have := Int.mul_le_mul_of_nonneg_right q (show 0 ≤ P.2.2 by omega)
      omega
    have b2 : l.2.2 ≤ l.1 * xs u + l.2.1 * ys u → 0 < hH (dxP xs Q) (dyP ys Q) l.1 l.2.1 u := by
      intro q
      have := Int.mul_le_mul_of_nonneg_right q (show 0 ≤ Q.2.2 by omega)
      omega
    by_cases c : u = v
    · rw [if_pos c, if_pos (b1 (by rw [c]; omega)), if_pos (b2 (by rw [c]; omega)), c]; omega
    · rw [if_neg c]
      by_cases c2 : l.1 * xs u + l.2.1 * ys u ≤ l.2.2
      · rw [if_pos (b1 c2)]; omega
      · rw [if_pos (b2 (by omega))]; omega
  omega
theorem mul_sw (a b c : Int) : a * b * c = c * b * a := by grind
theorem g_turn {a b m1 m2 x y : Int} (l1 : a * x + b * y = 0) : b * (m1 * x + m2 * y) = -((a * m2 - m1 * b) * x) := by grind
theorem g_off {m P Q : Ln} (mQ : m.1 * Q.1 + m.2.1 * Q.2.1 = m.2.2 * Q.2.2) : (m.1 * P.1 + m.2.1 * P.2.1 - m.2.2 * P.2.2) * Q.2.2 = m.1 * (P.1 * Q.2.2 - Q.1 * P.2.2) + m.2.1 * (P.2.1 * Q.2.2 - Q.2.1 * P.2.2) := by grind
theorem g_on {l P Q : Ln} (lP : l.1 * P.1 + l.2.1 * P.2.1 = l.2.2 * P.2.2) (lQ : l.1 * Q.1 + l.2.1 * Q.2.1 = l.2.2 * Q.2.2) : l.1 * (P.1 * Q.2.2 - Q.1 * P.2.2) + l.2.1 * (P.2.1 * Q.2.2 - Q.2.1 * P.2.2) = 0 := by grind
theorem h_three {xs ys : Nat → Int} {w : Nat → Nat} {n v : Nat} {P Q R l m : Ln} (hP : halfAt xs ys w n P) (hR : halfAt xs ys w n R) (p0 : 0 < P.2.2) (q0 : 0 < Q.2.2) (r0 : 0 < R.2.2) (h1 : plLt P Q) (h2 : plLt Q R) (lP : onL l P) (lQ : onL l Q) (lR : onL l R) (mQ : onL m Q) (hd : l.1 * m.2.1 - m.1 * l.2.1 ≠ 0) (hv : v < n) (hw : 0 < w v) (hm : m.1 * xs v + m.2.1 * ys v = m.2.2) : False := by
  unfold onL at lP lQ lR mQ
  unfold plLt at h1 h2
  -- what each is off m, times Q's n
  have o1 : (m.1 * P.1 + m.2.1 * P.2.1 - m.2.2 * P.2.2) * Q.2.2 = m.1 * (P.1 * Q.2.2 - Q.1 * P.2.2) + m.2.1 * (P.2.1 * Q.2.2 - Q.2.1 * P.2.2) := g_off mQ
  have o2 : (m.1 * R.1 + m.2.1 * R.2.1 - m.2.2 * R.2.2) * Q.2.2 = m.1 * (R.1 * Q.2.2 - Q.1 * R.2.2) + m.2.1 * (R.2.1 * Q.2.2 - Q.2.1 * R.2.2) := g_off mQ
  have l1 : l.1 * (P.1 * Q.2.2 - Q.1 * P.2.2) + l.2.1 * (P.2.1 * Q.2.2 - Q.2.1 * P.2.2) = 0 := g_on lP lQ
  have l2 : l.1 * (R.1 * Q.2.2 - Q.1 * R.2.2) + l.2.1 * (R.2.1 * Q.2.2 - Q.2.1 * R.2.2) = 0 := g_on lR lQ
  generalize hx1 : P.1 * Q.2.2 - Q.1 * P.2.2 = x1 at o1 l1
  generalize hy1 : P.2.1 * Q.2.2 - Q.2.1 * P.2.2 = y1 at o1 l1
  generalize hx2 : R.1 * Q.2.2 - Q.1 * R.2.2 = x2 at o2 l2
  generalize hy2 : R.2.1 * Q.2.2 - Q.2.1 * R.2.2 = y2 at o2 l2
  have c1 : x1 < 0 ∨ (x1 = 0 ∧ y1 < 0) := by omega
  have c2 : 0 < x2 ∨ (x2 = 0 ∧ 0 < y2) := by omega
  generalize hf1 : m.1 * P.1 + m.2.1 * P.2.1 - m.2.2 * P.2.2 = f1 at o1
  generalize hf2 : m.1 * R.1 + m.2.1 * R.2.1 - m.2.2 * R.2.2 = f2 at o2
  have sg : (f1 < 0 ∧ 0 < f2) ∨ (0 < f1 ∧ f2 < 0) := by
    have pn : ∀ {f g : Int}, f * Q.2.2 = g → ((0 < g → 0 < f) ∧ (g < 0 → f < 0)) := by
      intro f g e
      refine ⟨fun h => ?_, fun h => ?_⟩
      · by_cases q : 0 < f
        · exact q
        · have := Int.mul_nonneg (show 0 ≤ -f by omega) (show 0 ≤ Q.2.2 by omega)
          rw [Int.neg_mul] at this
          omega
      · by_cases q : f < 0
        · exact q
        · have := Int.mul_nonneg (show 0 ≤ f by omega) (show 0 ≤ Q.2.2 by omega)
          omega
    obtain ⟨p1, p2⟩ := pn o1
    obtain ⟨p3, p4⟩ := pn o2
    by_cases b : l.2.1 = 0
    · have a : l.1 ≠ 0 := by
        intro q
        rw [q, b] at hd
        omega
      have x10 : x1 = 0 := by
        rw [b, Int.zero_mul, Int.add_zero] at l1
        exact (Int.mul_eq_zero.mp l1).resolve_left a
      have x20 : x2 = 0 := by
        rw [b, Int.zero_mul, Int.add_zero] at l2
        exact (Int.mul_eq_zero.mp l2).resolve_left a
      have m0 : m.2.1 ≠ 0 := by
        intro q
        rw [q, b] at hd
        omega
      have y1n : y1 < 0 := by omega
      have y2p : 0 < y2 := by omega
      rw [x10, Int.mul_zero, Int.zero_add] at p1 p2
      rw [x20, Int.mul_zero, Int.zero_add] at p3 p4
      by_cases s : 0 < m.2.1
      · left
        refine ⟨p2 (Int.mul_neg_of_pos_of_neg s y1n), p3 (Int.mul_pos s y2p)⟩
      · right
        refine ⟨p1 (Int.mul_pos_of_neg_of_neg (by omega) y1n), p4 (Int.mul_neg_of_neg_of_pos (by omega) y2p)⟩
    · have x1n : x1 < 0 := by
        rcases c1 with c | ⟨c, d⟩
        · exact c
        · rw [c, Int.mul_zero, Int.zero_add] at l1
          have := (Int.mul_eq_zero.mp l1).resolve_left b
          omega
      have x2p : 0 < x2 := by
        rcases c2 with c | ⟨c, d⟩
        · exact c
        · rw [c, Int.mul_zero, Int.zero_add] at l2
          have := (Int.mul_eq_zero.mp l2).resolve_left b
          omega
      have g1 : l.2.1 * (m.1 * x1 + m.2.1 * y1) = -((l.1 * m.2.1 - m.1 * l.2.1) * x1) := g_turn l1
      have g2 : l.2.1 * (m.1 * x2 + m.2.1 * y2) = -((l.1 * m.2.1 - m.1 * l.2.1) * x2) := g_turn l2
      generalize l.1 * m.2.1 - m.1 * l.2.1 = d at hd g1 g2
      generalize m.1 * x1 + m.2.1 * y1 = z1 at p1 p2 g1
      generalize m.1 * x2 + m.2.1 * y2 = z2 at p3 p4 g2
      generalize l.2.1 = B at b g1 g2
      have pq : ∀ {B z t : Int}, 0 < B → B * z = t → ((0 < t → 0 < z) ∧ (t < 0 → z < 0)) := by
        intro B z t hB e
        refine ⟨fun h => ?_, fun h => ?_⟩
        · by_cases q : 0 < z
          · exact q
          · have := Int.mul_nonneg (show 0 ≤ B by omega) (show 0 ≤ -z by omega)
            rw [Int.mul_neg] at this
            omega
        · by_cases q : z < 0
          · exact q
          · have := Int.mul_nonneg (show 0 ≤ B by omega) (show 0 ≤ z by omega)
            omega
      have dx : (0 < d → d * x1 < 0 ∧ 0 < d * x2) ∧ (d < 0 → 0 < d * x1 ∧ d * x2 < 0) :=
        ⟨fun h => ⟨Int.mul_neg_of_pos_of_neg h x1n, Int.mul_pos h x2p⟩, fun h => ⟨Int.mul_pos_of_neg_of_neg h x1n, Int.mul_neg_of_neg_of_pos h x2p⟩⟩
      by_cases sB : 0 < B
      · obtain ⟨r1, r2⟩ := pq sB g1
        obtain ⟨r3, r4⟩ := pq sB g2
        by_cases sd : 0 < d
        · have := dx.1 sd
          exact Or.inr ⟨p1 (r1 (by omega)), p4 (r4 (by omega))⟩
        · have := dx.2 (by omega)
          exact Or.inl ⟨p2 (r2 (by omega)), p3 (r3 (by omega))⟩
      · have g1' : (-B) * z1 = d * x1 := by rw [Int.neg_mul, g1, Int.neg_neg]
        have g2' : (-B) * z2 = d * x2 := by rw [Int.neg_mul, g2, Int.neg_neg]
        obtain ⟨r1, r2⟩ := pq (show 0 < -B by omega) g1'
        obtain ⟨r3, r4⟩ := pq (show 0 < -B by omega) g2'
        by_cases sd : 0 < d
        · have := dx.1 sd
          exact Or.inl ⟨p2 (r2 (by omega)), p3 (r3 (by omega))⟩
        · have := dx.2 (by omega)
          exact Or.inr ⟨p1 (r1 (by omega)), p4 (r4 (by omega))⟩
  rcases sg with ⟨s1, s2⟩ | ⟨s1, s2⟩
  · exact h_strip hR hP r0 p0 hv hw hm (by omega) (by omega)
  · exact h_strip hP hR p0 r0 hv hw hm (by omega) (by omega)
/-- a place at a voter, a place where two lines cross -/
def atV (xs ys : Nat → Int) (v : Nat) (P : Ln) : Prop := P.1 = P.2.2 * xs v ∧ P.2.1 = P.2.2 * ys v
def crs (g : Nat → Ln) (i j : Nat) (P : Ln) : Prop := (g i).1 * (g j).2.1 - (g j).1 * (g i).2.1 ≠ 0 ∧ onL (g i) P ∧ onL (g j) P
theorem g_mid (p q P1 P2 Q1 Q2 x y : Int) : ∃ A B : Int, A * P1 + B * P2 - (A * x + B * y) * p = -(p * ((P1 - p * x) * (Q2 - q * y) - (P2 - p * y) * (Q1 - q * x))) ∧ A * Q1 + B * Q2 - (A * x + B * y) * q = q * ((P1 - p * x) * (Q2 - q * y) - (P2 - p * y) * (Q1 - q * x)) :=
  ⟨-(q * (P2 - p * y) + p * (Q2 - q * y)), q * (P1 - p * x) + p * (Q1 - q * x), by grind, by grind⟩
/-- with two such places all voters are in a row with them -/
theorem h_two {xs ys : Nat → Int} {w : Nat → Nat} {n v : Nat} {P Q : Ln} (hP : halfAt xs ys w n P) (hQ : halfAt xs ys w n Q) (p0 : 0 < P.2.2) (q0 : 0 < Q.2.2) (hv : v < n) (hw : 0 < w v) : (P.1 - P.2.2 * xs v) * (Q.2.1 - Q.2.2 * ys v) - (P.2.1 - P.2.2 * ys v) * (Q.1 - Q.2.2 * xs v) = 0 := by
  obtain ⟨A, B, m1, m2⟩ := g_mid P.2.2 Q.2.2 P.1 P.2.1 Q.1 Q.2.1 (xs v) (ys v)
  generalize (P.1 - P.2.2 * xs v) * (Q.2.1 - Q.2.2 * ys v) - (P.2.1 - P.2.2 * ys v) * (Q.1 - Q.2.2 * xs v) = c at m1 m2 ⊢
  by_cases z : c = 0
  · exact z
  · exfalso
    by_cases s : 0 < c
    · have k1 := Int.mul_pos p0 s
      have k2 := Int.mul_pos q0 s
      exact h_strip (l := (A, B, A * xs v + B * ys v)) hQ hP q0 p0 hv hw rfl (show (A * xs v + B * ys v) * Q.2.2 < A * Q.1 + B * Q.2.1 by omega) (show A * P.1 + B * P.2.1 < (A * xs v + B * ys v) * P.2.2 by omega)
    · have k1 := Int.mul_pos p0 (show 0 < -c by omega)
      have k2 := Int.mul_pos q0 (show 0 < -c by omega)
      rw [Int.mul_neg] at k1 k2
      exact h_strip (l := (A, B, A * xs v + B * ys v)) hP hQ p0 q0 hv hw rfl (show (A * xs v + B * ys v) * P.2.2 < A * P.1 + B * P.2.1 by omega) (show A * Q.1 + B * Q.2.1 < (A * xs v + B * ys v) * Q.2.2 by omega)
theorem g_all {P R : Ln} {x y : Int} (h : (P.1 - P.2.2 * x) * (R.2.1 - R.2.2 * y) - (P.2.1 - P.2.2 * y) * (R.1 - R.2.2 * x) = 0) : (R.2.1 * P.2.2 - P.2.1 * R.2.2) * x + (P.1 * R.2.2 - R.1 * P.2.2) * y = P.1 * R.2.1 - P.2.1 * R.1 := by grind
theorem g_par {a b c d x y : Int} (h1 : a * x + b * y = 0) (h2 : c * x + d * y = 0) (nz : ¬ (x = 0 ∧ y = 0)) : a * d - b * c = 0 := by
  have e1 : (a * d - b * c) * x = d * (a * x + b * y) - b * (c * x + d * y) := by grind
  have e2 : (a * d - b * c) * y = a * (c * x + d * y) - c * (a * x + b * y) := by grind
  rw [h1, h2, Int.mul_zero, Int.mul_zero, Int.sub_zero] at e1 e2
  rcases Int.mul_eq_zero.mp e1 with h | hx
  · exact h
  · rcases Int.mul_eq_zero.mp e2 with h | hy
    · exact h
    · exact absurd ⟨hx, hy⟩ nz
theorem g_onP (P R : Ln) : (R.2.1 * P.2.2 - P.2.1 * R.2.2) * P.1 + (P.1 * R.2.2 - R.1 * P.2.2) * P.2.1 = (P.1 * R.2.1 - P.2.1 * R.1) * P.2.2 := by grind
theorem g_onR (P R : Ln) : (R.2.1 * P.2.2 - P.2.1 * R.2.2) * R.1 + (P.1 * R.2.2 - R.1 * P.2.2) * R.2.1 = (P.1 * R.2.1 - P.2.1 * R.1) * R.2.2 := by grind
theorem g_atv (a b q x y : Int) : a * (q * x) + b * (q * y) = (a * x + b * y) * q := by grind
/-- three such places: never -/
theorem no3 {xs ys : Nat → Int} {w : Nat → Nat} {n r : Nat} {g : Nat → Ln} {P Q R : Ln} (hw : ∀ v, v < n → 0 < w v) (hg : ∀ i, i < r → ∃ u v, u < n ∧ v < n ∧ ¬ (xs u = xs v ∧ ys u = ys v) ∧ (g i).1 * (xs u - xs v) + (g i).2.1 * (ys u - ys v) = 0) (p0 : 0 < P.2.2) (q0 : 0 < Q.2.2) (r0 : 0 < R.2.2) (hPQ : plLt P Q) (hQR : plLt Q R) (hPR : plLt P R) (hP : halfAt xs ys w n P) (hR : halfAt xs ys w n R) (hc : (∃ v, v < n ∧ atV xs ys v Q) ∨ ∃ k j, k < r ∧ j < r ∧ crs g k j Q) : False := by
  have al : ∀ v, v < n → (R.2.1 * P.2.2 - P.2.1 * R.2.2) * xs v + (P.1 * R.2.2 - R.1 * P.2.2) * ys v = P.1 * R.2.1 - P.2.1 * R.1 := fun v hv => g_all (h_two hP hR p0 r0 hv (hw v hv))
  have oP := g_onP P R
  have oR := g_onR P R
  have nz : ¬ (R.2.1 * P.2.2 - P.2.1 * R.2.2 = 0 ∧ P.1 * R.2.2 - R.1 * P.2.2 = 0) := by
    unfold plLt at hPR
    omega
  generalize R.2.1 * P.2.2 - P.2.1 * R.2.2 = a at al oP oR nz
  generalize P.1 * R.2.2 - R.1 * P.2.2 = b at al oP oR nz
  generalize P.1 * R.2.1 - P.2.1 * R.1 = c at al oP oR
  rcases hc with ⟨v, v1, vx, vy⟩ | ⟨k, j, k1, j1, d, -, -⟩
  · have lv := al v v1
    refine h_three (l := (a, b, c)) (m := (-b, a, -b * xs v + a * ys v)) hP hR p0 q0 r0 hPQ hQR oP ?_ oR ?_ ?_ v1 (hw v v1) rfl
    · show a * Q.1 + b * Q.2.1 = c * Q.2.2
      rw [vx, vy, ← lv]
      exact g_atv ..
    · show -b * Q.1 + a * Q.2.1 = (-b * xs v + a * ys v) * Q.2.2
      rw [vx, vy]
      exact g_atv ..
    · show a * a - -b * b ≠ 0
      rw [Int.neg_mul]
      have := sq_nn a
      have := sq_nn b
      by_cases z : a = 0
      · have z2 : b ≠ 0 := fun q => nz ⟨z, q⟩
        have := sq_pos z2
        omega
      · have := sq_pos z
        omega
  · have zz : ∀ i, i < r → (g i).1 * b - (g i).2.1 * a = 0 := by
      intro i hi
      obtain ⟨u, v, u1, v1, h1, h2⟩ := hg i hi
      refine g_par (c := a) (d := b) h2 ?_ (by omega)
      have q1 := al u u1
      have q2 := al v v1
      rw [Int.mul_sub, Int.mul_sub]
      omega
    have e1 := zz k k1
    have e2 := zz j j1
    have := g_par (a := (g k).1) (b := (g k).2.1) (c := (g j).1) (d := (g j).2.1) (x := b) (y := -a) (by rw [Int.mul_neg]; omega) (by rw [Int.mul_neg]; omega) (by omega)
    rw [Int.mul_comm (g k).2.1] at this
    exact d this
theorem few {xs ys : Nat → Int} {w : Nat → Nat} {n r s : Nat} {g f : Nat → Ln} (hw : ∀ v, v < n → 0 < w v) (hg : ∀ i, i < r → ∃ u v, u < n ∧ v < n ∧ ¬ (xs u = xs v ∧ ys u = ys v) ∧ (g i).1 * (xs u - xs v) + (g i).2.1 * (ys u - ys v) = 0) (hs : srt plLt f s) (hN : ∀ i, i < s → 0 < (f i).2.2) (hh : ∀ i, i < s → halfAt xs ys w n (f i)) (hc : ∀ i, i < s → (∃ v, v < n ∧ atV xs ys v (f i)) ∨ ∃ k j, k < r ∧ j < r ∧ crs g k j (f i)) : s ≤ 2 := by
  refine Classical.byContradiction fun q => ?_
  exact no3 hw hg (hN 0 (by omega)) (hN 1 (by omega)) (hN 2 (by omega)) (hs 0 1 (by omega) (by omega)) (hs 1 2 (by omega) (by omega)) (hs 0 2 (by omega) (by omega)) (hh 0 (by omega)) (hh 2 (by omega)) (hc 1 (by omega))
/-! a line turned a little -/
theorem h_pair {dx dy : Nat → Int} {w : Nat → Nat} {n W : Nat} (h : ∀ a b, 2 * sW w (fun u => 0 < hH dx dy a b u) n ≤ W) (p q : Nat → Prop) [DecidablePred p] [DecidablePred q] (a b : Int) (hp : ∀ u, u < n → p u → 0 < hH dx dy a b u ∧ ¬ q u) (hq : ∀ u, u < n → q u → 0 < hH dx dy a b u) : 2 * (sW w p n + sW w q n) ≤ W := by
  have key : sW w p n + sW w q n ≤ sW w (fun u => 0 < hH dx dy a b u) n := by
    unfold sW
    rw [← fb_sm_add]
    refine fb_sm_le (fun u hu => ?_)
    by_cases c : p u
    · obtain ⟨c1, c2⟩ := hp u hu c
      rw [if_pos c, if_neg c2, if_pos c1]; omega
    · by_cases c2 : q u
      · rw [if_neg c, if_pos c2, if_pos (hq u hu c2)]; omega
      · rw [if_neg c, if_neg c2]; omega
  have := h a b
  omega
theorem h_bd (f : Nat → Int) : ∀ n, ∃ K, 0 < K ∧ ∀ u, u < n → -K < f u ∧ f u < K
  | 0 => ⟨1, by omega, fun u h => absurd h (by omega)⟩
  | n + 1 => by
    obtain ⟨K, k0, kb⟩ := h_bd f n
    refine ⟨K + (f n).natAbs + 1, by omega, fun u hu => ?_⟩
    by_cases e : u = n
    · rw [e]; omega
    · have := kb u (by omega)
      omega
theorem hH_id (dx dy : Nat → Int) (v u : Nat) (s t K : Int) : hH dx dy (t * dx v - s * (K * dy v)) (t * dy v + s * (K * dx v)) u = t * hA dx dy v u + s * (K * hT dx dy v u) := by
  unfold hH hA hT
  grind
theorem h_turn {dx dy : Nat → Int} {w : Nat → Nat} {n W : Nat} (h : ∀ a b, 2 * sW w (fun u => 0 < hH dx dy a b u) n ≤ W) (v : Nat) : (2 * (sW w (fun u => 0 < hT dx dy v u) n + sW w (fun u => hT dx dy v u = 0 ∧ 0 < hA dx dy v u) n) ≤ W ∧ 2 * (sW w (fun u => 0 < hT dx dy v u) n + sW w (fun u => hT dx dy v u = 0 ∧ hA dx dy v u < 0) n) ≤ W) ∧ (2 * (sW w (fun u => hT dx dy v u < 0) n + sW w (fun u => hT dx dy v u = 0 ∧ 0 < hA dx dy v u) n) ≤ W ∧ 2 * (sW w (fun u => hT dx dy v u < 0) n + sW w (fun u => hT dx dy v u = 0 ∧ hA dx dy v u < 0) n) ≤ W) := by
  obtain ⟨K, k0, kb⟩ := h_bd (hA dx dy v) n
  have kp : ∀ u, 0 < hT dx dy v u → K ≤ K * hT dx dy v u := by
    intro u hu
    have := Int.mul_le_mul_of_nonneg_left (show 1 ≤ hT dx dy v u by omega) (show 0 ≤ K by omega)
    omega
  have kn : ∀ u, hT dx dy v u < 0 → K * hT dx dy v u ≤ -K := by
    intro u hu
    have := Int.mul_le_mul_of_nonneg_left (show hT dx dy v u ≤ -1 by omega) (show 0 ≤ K by omega)
    omega
  have go : ∀ (s t : Int) (p q : Nat → Prop) [DecidablePred p] [DecidablePred q], (∀ u, u < n → p u → 0 < t * hA dx dy v u + s * (K * hT dx dy v u) ∧ ¬ q u) → (∀ u, u < n → q u → 0 < t * hA dx dy v u + s * (K * hT dx dy v u)) → 2 * (sW w p n + sW w q n) ≤ W := by
    intro s t p q _ _ h1 h2
    refine h_pair h p q (t * dx v - s * (K * dy v)) (t * dy v + s * (K * dx v)) (fun u hu c => ?_) (fun u hu c => ?_)
    · rw [hH_id]; exact h1 u hu c
    · rw [hH_id]; exact h2 u hu c
  refine ⟨⟨go 1 1 _ _ (fun u hu c => ?_) (fun u hu c => ?_), go 1 (-1) _ _ (fun u hu c => ?_) (fun u hu c => ?_)⟩, ⟨go (-1) 1 _ _ (fun u hu c => ?_) (fun u hu c => ?_), go (-1) (-1) _ _ (fun u hu c => ?_) (fun u hu c => ?_)⟩⟩
  · have := kp u c
    have := kb u hu
    exact ⟨by omega, fun q => by have := q.1; omega⟩
  · have := kb u hu
    rw [c.1, Int.mul_zero]
    omega
  · have := kp u c
    have := kb u hu
    exact ⟨by omega, fun q => by have := q.1; omega⟩
  · have := kb u hu
    rw [c.1, Int.mul_zero]
    omega
  · have := kn u c
    have := kb u hu
    exact ⟨by omega, fun q => by have := q.1; omega⟩
  · have := kb u hu
    rw [c.1, Int.mul_zero]
    omega
  · have := kn u c
    have := kb u hu
    exact ⟨by omega, fun q => by have := q.1; omega⟩
  · have := kb u hu
    rw [c.1, Int.mul_zero]
    omega
