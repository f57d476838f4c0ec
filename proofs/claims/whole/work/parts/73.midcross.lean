theorem cramer1 {A B C a b c p q w n : Int} (n0 : n ≠ 0) (hn : n = A * b - a * B) (h1 : p * n = (C * b - c * B) * w) (h2 : q * n = (A * c - a * C) * w) : A * p + B * q = C * w ∧ a * p + b * q = c * w := by
  constructor
  · apply Int.eq_of_mul_eq_mul_right n0
    have e : (A * p + B * q) * n = A * (p * n) + B * (q * n) := by grind
    rw [e, h1, h2, hn]
    grind
  · apply Int.eq_of_mul_eq_mul_right n0
    have e : (a * p + b * q) * n = a * (p * n) + b * (q * n) := by grind
    rw [e, h1, h2, hn]
    grind
theorem cramer2 {A B C a b c p q w : Int} (h1 : A * p + B * q = C * w) (h2 : a * p + b * q = c * w) : p * (A * b - a * B) = (C * b - c * B) * w ∧ q * (A * b - a * B) = (A * c - a * C) * w := by
  constructor
  · have e : p * (A * b - a * B) = b * (A * p + B * q) - B * (a * p + b * q) := by grind
    rw [e, h1, h2]; grind
  · have e : q * (A * b - a * B) = A * (a * p + b * q) - a * (A * p + B * q) := by grind
    rw [e, h1, h2]; grind
/-! then where two lines cross -/
def c3N (t u : Int32 × Int32 × Int32) : Int64 := t.1.toInt64 * u.2.1.toInt64 - u.1.toInt64 * t.2.1.toInt64
def c3X (t u : Int32 × Int32 × Int32) : Int64 := t.2.2.toInt64 * u.2.1.toInt64 - u.2.2.toInt64 * t.2.1.toInt64
def c3Y (t u : Int32 × Int32 × Int32) : Int64 := t.1.toInt64 * u.2.2.toInt64 - u.1.toInt64 * t.2.2.toInt64
theorem pr20 {a b : Int} (h1 : -20000 ≤ a) (h2 : a ≤ 20000) (h3 : -99 ≤ b) (h4 : b ≤ 99) : -1980000 ≤ a * b ∧ a * b ≤ 1980000 := by
  have key : ∀ {a b : Int}, -20000 ≤ a → a ≤ 20000 → 0 ≤ b → b ≤ 99 → -1980000 ≤ a * b ∧ a * b ≤ 1980000 := by
    intro a b h1 h2 h3 h4
    have e1 : a * b ≤ 20000 * b := Int.mul_le_mul_of_nonneg_right h2 h3
    have e2 : -20000 * b ≤ a * b := Int.mul_le_mul_of_nonneg_right h1 h3
    omega
  by_cases c : 0 ≤ b
  · exact key h1 h2 c h4
  · have := key (a := a) (b := -b) h1 h2 (by omega) (by omega)
    rw [Int.mul_neg] at this
    omega
theorem pr99 {a b : Int} (h1 : -99 ≤ a) (h2 : a ≤ 99) (h3 : -99 ≤ b) (h4 : b ≤ 99) : -9801 ≤ a * b ∧ a * b ≤ 9801 := by
  by_cases c : 0 ≤ b
  · exact pr_rng h1 h2 c h4
  · have := pr_rng (a := a) (b := -b) h1 h2 (by omega) (by omega)
    rw [Int.mul_neg] at this
    omega
theorem mulW {a b : Int32} (h1 : -9000000 ≤ a.toInt * b.toInt) (h2 : a.toInt * b.toInt ≤ 9000000) : (a.toInt64 * b.toInt64).toInt = a.toInt * b.toInt := by
  rw [fb_mulL (by rw [Int32.toInt_toInt64, Int32.toInt_toInt64]; omega) (by rw [Int32.toInt_toInt64, Int32.toInt_toInt64]; omega), Int32.toInt_toInt64, Int32.toInt_toInt64]
theorem c3_i {t u : Int32 × Int32 × Int32} (ht : sm3 t) (hu : sm3 u) : (c3N t u).toInt = t.1.toInt * u.2.1.toInt - u.1.toInt * t.2.1.toInt ∧ (c3X t u).toInt = t.2.2.toInt * u.2.1.toInt - u.2.2.toInt * t.2.1.toInt ∧ (c3Y t u).toInt = t.1.toInt * u.2.2.toInt - u.1.toInt * t.2.2.toInt ∧ ((c3N t u).toInt ≠ 0 → bigP (c3X t u) (c3Y t u) (c3N t u)) := by
  obtain ⟨a1, b1, c1⟩ := ht
  obtain ⟨a2, b2, c2⟩ := hu
  have q1 := pr99 a1.1 a1.2 b2.1 b2.2
  have q2 := pr99 a2.1 a2.2 b1.1 b1.2
  have q3 := pr20 c1.1 c1.2 b2.1 b2.2
  have q4 := pr20 c2.1 c2.2 b1.1 b1.2
  have q5 := pr20 c2.1 c2.2 a1.1 a1.2
  have q6 := pr20 c1.1 c1.2 a2.1 a2.2
  rw [Int.mul_comm] at q5 q6
  have m1 := mulW (a := t.1) (b := u.2.1) (by omega) (by omega)
  have m2 := mulW (a := u.1) (b := t.2.1) (by omega) (by omega)
  have m3 := mulW (a := t.2.2) (b := u.2.1) (by omega) (by omega)
  have m4' := mulW (a := u.2.2) (b := t.2.1) (by omega) (by omega)
  have m5 := mulW (a := t.1) (b := u.2.2) (by omega) (by omega)
  have m6 := mulW (a := u.1) (b := t.2.2) (by omega) (by omega)
  have e1 : (c3N t u).toInt = t.1.toInt * u.2.1.toInt - u.1.toInt * t.2.1.toInt := by
    unfold c3N; rw [fb_subL (by rw [m1, m2]; omega) (by rw [m1, m2]; omega), m1, m2]
  have e2 : (c3X t u).toInt = t.2.2.toInt * u.2.1.toInt - u.2.2.toInt * t.2.1.toInt := by
    unfold c3X; rw [fb_subL (by rw [m3, m4']; omega) (by rw [m3, m4']; omega), m3, m4']
  have e3 : (c3Y t u).toInt = t.1.toInt * u.2.2.toInt - u.1.toInt * t.2.2.toInt := by
    unfold c3Y; rw [fb_subL (by rw [m5, m6]; omega) (by rw [m5, m6]; omega), m5, m6]
  refine ⟨e1, e2, e3, fun h => ⟨by rw [e2]; omega, by rw [e3]; omega, by rw [e1]; omega, h⟩⟩
theorem c3_crs {g : Nat → Ln} {i j : Nat} {t u : Int32 × Int32 × Int32} (ht : sm3 t) (hu : sm3 u) (gi : g i = un3 t) (gj : g j = un3 u) (h0 : (c3N t u).toInt ≠ 0) (P : Ln) : crs g i j P ↔ (P.1 * (c3N t u).toInt = (c3X t u).toInt * P.2.2 ∧ P.2.1 * (c3N t u).toInt = (c3Y t u).toInt * P.2.2) := by
  obtain ⟨e1, e2, e3, -⟩ := c3_i ht hu
  have i1 : (g i).1 = t.1.toInt := by rw [gi]; rfl
  have i2 : (g i).2.1 = t.2.1.toInt := by rw [gi]; rfl
  have i3 : (g i).2.2 = t.2.2.toInt := by rw [gi]; rfl
  have j1 : (g j).1 = u.1.toInt := by rw [gj]; rfl
  have j2 : (g j).2.1 = u.2.1.toInt := by rw [gj]; rfl
  have j3 : (g j).2.2 = u.2.2.toInt := by rw [gj]; rfl
  unfold crs onL
  rw [i1, i2, i3, j1, j2, j3, e2, e3]
  constructor
  · rintro ⟨-, h1, h2⟩
    rw [e1]
    exact cramer2 h1 h2
  · rintro ⟨h1, h2⟩
    exact ⟨by rw [← e1]; exact h0, cramer1 h0 e1 h1 h2⟩
theorem c3_no {g : Nat → Ln} {i j : Nat} {t u : Int32 × Int32 × Int32} (ht : sm3 t) (hu : sm3 u) (gi : g i = un3 t) (gj : g j = un3 u) (h0 : (c3N t u).toInt = 0) (P : Ln) : ¬ crs g i j P := by
  obtain ⟨e1, -⟩ := c3_i ht hu
  rintro ⟨h, -⟩
  apply h
  rw [gi, gj]
  exact e1.symm.trans h0
theorem crs_sw {g : Nat → Ln} {i j : Nat} {P : Ln} (h : crs g i j P) : crs g j i P := by
  obtain ⟨h1, h2, h3⟩ := h
  refine ⟨fun q => h1 ?_, h3, h2⟩
  rw [Int.mul_comm (g i).1, Int.mul_comm (g j).1]
  rw [Int.mul_comm (g j).1, Int.mul_comm (g i).1] at q
  omega
theorem crs_ne {g : Nat → Ln} {i : Nat} {P : Ln} (h : crs g i i P) : False := h.1 (by omega)
/-- each line goes as two voters at unlike points lie -/
def lvP (D : Dt) (g : Nat → Ln) (r : Nat) : Prop := ∀ i, i < r → ∃ u v, u < D.1 ∧ v < D.1 ∧ ¬ (xsD D u = xsD D v ∧ ysD D u = ysD D v) ∧ (g i).1 * (xsD D u - xsD D v) + (g i).2.1 * (ysD D u - ysD D v) = 0
theorem g_dir {A B G S T : Int} (h1 : A * G = S) (h2 : B * G = T) : A * T + B * (-S) = 0 := by
  rw [← h1, ← h2]
  grind
theorem ln_along {D : Dt} {v u : Nat} (hx : inN (D.2.1 v) 100 = true) (hy : inN (D.2.2.1 v) 100 = true) (hx2 : inN (D.2.1 u) 100 = true) (hy2 : inN (D.2.2.1 u) 100 = true) (h0 : ¬ (trA D v u = 0 ∧ trB D v u = 0)) : ¬ (xsD D v = xsD D u ∧ ysD D v = ysD D u) ∧ (lnA D v u).toInt * (xsD D v - xsD D u) + (lnB D v u).toInt * (ysD D v - ysD D u) = 0 := by
  have i1 := inN_i.mp hx
  have i2 := inN_i.mp hy
  have i3 := inN_i.mp hx2
  have i4 := inN_i.mp hy2
  have ta : (trA D v u).toInt = (D.2.2.1 u).toInt - (D.2.2.1 v).toInt := fb_subI (by omega) (by omega)
  have tb : (trB D v u).toInt = (D.2.1 v).toInt - (D.2.1 u).toInt := fb_subI (by omega) (by omega)
  have ra : -99 ≤ (trA D v u).toInt ∧ (trA D v u).toInt ≤ 99 := by omega
  have rb : -99 ≤ (trB D v u).toInt ∧ (trB D v u).toInt ≤ 99 := by omega
  obtain ⟨g0, g1, g2⟩ := gP_i ra rb h0
  have e0 : ¬ ((trA D v u).toInt = 0 ∧ (trB D v u).toInt = 0) := fun q => h0 ⟨(fa_eq _ _).mpr q.1, (fa_eq _ _).mpr q.2⟩
  have gn : (gP (trA D v u) (trB D v u)).toInt ≠ 0 := by rw [g2]; split <;> omega
  have a1 : (lnA D v u).toInt = (trA D v u).toInt.tdiv (gP (trA D v u) (trB D v u)).toInt := (div_i ra gn).1
  have b1 : (lnB D v u).toInt = (trB D v u).toInt.tdiv (gP (trA D v u) (trB D v u)).toInt := (div_i rb gn).1
  have da : (Nat.gcd (trA D v u).toInt.natAbs (trB D v u).toInt.natAbs : Int) ∣ (trA D v u).toInt := Int.ofNat_dvd_left.mpr (Nat.gcd_dvd_left _ _)
  have db : (Nat.gcd (trA D v u).toInt.natAbs (trB D v u).toInt.natAbs : Int) ∣ (trB D v u).toInt := Int.ofNat_dvd_left.mpr (Nat.gcd_dvd_right _ _)
  have da2 : (gP (trA D v u) (trB D v u)).toInt ∣ (trA D v u).toInt := by
    rw [g2]; split
    · exact Int.neg_dvd.mpr da
    · exact da
  have db2 : (gP (trA D v u) (trB D v u)).toInt ∣ (trB D v u).toInt := by
    rw [g2]; split
    · exact Int.neg_dvd.mpr db
    · exact db
  have m1 : (lnA D v u).toInt * (gP (trA D v u) (trB D v u)).toInt = (trA D v u).toInt := by rw [a1]; exact Int.tdiv_mul_cancel da2
  have m2 : (lnB D v u).toInt * (gP (trA D v u) (trB D v u)).toInt = (trB D v u).toInt := by rw [b1]; exact Int.tdiv_mul_cancel db2
  unfold xsD ysD
  refine ⟨fun q => e0 ⟨by omega, by omega⟩, ?_⟩
  have k := g_dir m1 m2
  rw [tb, ta, Int.neg_sub] at k
  exact k
theorem lv_of {M : Mem} {n p r : Nat} {g : Nat → Ln} (h : DI M n p) (hg : ∀ i, i < r → lnS (cD M) n 0 (g i)) : lvP (cD M) g r := by
  intro i hi
  obtain ⟨a, b, ⟨h1, h2⟩, h3, h4⟩ := hg i hi
  have ha : a < n := by omega
  have hb : b < n := by omega
  obtain ⟨o1, o2, -⟩ := h.2.2.1 a ha
  obtain ⟨o3, o4, -⟩ := h.2.2.1 b hb
  obtain ⟨k1, k2⟩ := ln_along (D := cD M) (v := a) (u := b) o1 o2 o3 o4 h3.1
  refine ⟨a, b, by rw [h.cn]; exact ha, by rw [h.cn]; exact hb, k1, ?_⟩
  rw [h4]
  exact k2
theorem few_of {M : Mem} {n p r s : Nat} {g f : Nat → Ln} {E : Ln → Prop} (h : DI M n p) (hr : r ≤ 105) (hg : lvP (cD M) g r) (hS : SR plLt plOk f s (cS (cD M) E)) (hE : ∀ P, E P → EV (cD M) n P ∨ ∃ i j, i < r ∧ j < r ∧ crs g i j P) : s ≤ 2 := by
  have hn := h.n15
  have hv : ∀ v, v < (cD M).1 → inN ((cD M).2.1 v) 100 = true ∧ inN ((cD M).2.2.1 v) 100 = true ∧ 1 ≤ ((cD M).2.2.2.1 v).toInt ∧ ((cD M).2.2.2.1 v).toInt ≤ 9 := by
    intro v hv
    obtain ⟨o1, o2, o3, -⟩ := h.2.2.1 v (by rw [← h.cn]; exact hv)
    exact ⟨o1, o2, o3⟩
  have mem : ∀ i, i < s → cS (cD M) E (f i) := fun i hi => (hS.2.2 _).mp ⟨i, hi, rfl⟩
  refine few (xs := xsD (cD M)) (ys := ysD (cD M)) (w := wsD (cD M)) (n := (cD M).1) (r := r) (g := g) (fun v q => ?_) hg hS.1 (fun i hi => (hS.2.1 i hi).1) (fun i hi => ?_) (fun i hi => ?_)
  · have := (hv v q).2.2
    unfold wsD
    omega
  · obtain ⟨-, ⟨X, Y, N, k1, k2, k3⟩, -⟩ := mem i hi
    rw [k2]
    exact half_of (by rw [h.cn]; exact hn) hv k1 k3
  · obtain ⟨-, -, k⟩ := mem i hi
    rcases hE _ k with q | q
    · left; rw [h.cn]; exact q
    · exact Or.inr q
theorem k_askC {M : Mem} {n p s k l : Nat} {E : Ln → Prop} (hD : DI M n p) (h : MdK M s (cS (cD M) E)) (hs : s < 15) (hk : k < 105) (hl : l < 105) (sk : sm3 (rw3 M k)) (sl : sm3 (rw3 M l)) : ∃ M1 s1, fX4_askCrossing (nI k) (nI l) M = some M1 ∧ MdK M1 s1 (cS (cD M) (fun P => E P ∨ crs (lo M) k l P)) ∧ sm rgMd M M1 := by
  have ik := inb_nI hk (by decide)
  have il := inb_nI hl (by decide)
  obtain ⟨e1, e2, e3, e4⟩ := c3_i sk sl
  unfold fX4_askCrossing fX2_turnBetween fX2_crossingX fX2_crossingY fX4_askCrossing_39
  simp only [ik, il, if_true, ix_nI (show k < 2147483648 by omega), ix_nI (show l < 2147483648 by omega), Option.bind_some, lg_eq]
  have eN : (M.1 27 k).toInt64 * (M.1 28 l).toInt64 - (M.1 27 l).toInt64 * (M.1 28 k).toInt64 = c3N (rw3 M k) (rw3 M l) := rfl
  have eX : (M.1 29 k).toInt64 * (M.1 28 l).toInt64 - (M.1 29 l).toInt64 * (M.1 28 k).toInt64 = c3X (rw3 M k) (rw3 M l) := rfl
  have eY : (M.1 27 k).toInt64 * (M.1 29 l).toInt64 - (M.1 27 l).toInt64 * (M.1 29 k).toInt64 = c3Y (rw3 M k) (rw3 M l) := rfl
  rw [eN, eX, eY]
  have z64 : (0 : Int64).toInt = 0 := rfl
  by_cases c : c3N (rw3 M k) (rw3 M l) = 0
  · rw [if_pos c]
    have c' : (c3N (rw3 M k) (rw3 M l)).toInt = 0 := by rw [c]; rfl
    refine ⟨M, s, rfl, h.cg (fun P => ?_), sm_rf⟩
    have := c3_no (g := lo M) (i := k) (j := l) sk sl rfl rfl c' P
    unfold cS
    simp [this]
  · rw [if_neg c]
    have c' : (c3N (rw3 M k) (rw3 M l)).toInt ≠ 0 := fun q => c ((fa_eq64 _ _).mpr q)
    obtain ⟨M1, s1, a1, a2, a3, a4⟩ := k_ask hD h hs (e4 c')
    refine ⟨M1, s1, by rw [a1]; rfl, a3.cg (fun P => ?_), a4⟩
    refine cS_add (e4 c') (fun P hP => ?_) P
    rw [c3_crs (g := lo M) (i := k) (j := l) sk sl rfl rfl c' P]
/-- the places that are asked for -/
def Ef (D : Dt) (g : Nat → Ln) (r : Nat) (P : Ln) : Prop := EV D D.1 P ∨ ∃ i j, i < r ∧ j < r ∧ crs g i j P
def E1 (D : Dt) (g : Nat → Ln) (r k l : Nat) (P : Ln) : Prop := EV D D.1 P ∨ ∃ i j, (i < j ∧ j < r ∧ (i < k ∨ (i = k ∧ j < l))) ∧ crs g i j P
def E2 (D : Dt) (g : Nat → Ln) (k l : Nat) (P : Ln) : Prop := EV D D.1 P ∨ ∃ i j, (j < i ∧ (i < k ∨ (i = k ∧ j < l))) ∧ crs g i j P
theorem E1_0 {D : Dt} {g : Nat → Ln} {r : Nat} (P : Ln) : E1 D g r 0 1 P ↔ EV D D.1 P := by
  refine ⟨fun h => ?_, Or.inl⟩
  rcases h with h | ⟨i, j, ⟨h1, h2, h3⟩, -⟩
  · exact h
  · omega
theorem E1_in {D : Dt} {g : Nat → Ln} {r k l : Nat} (hk : k < l) (hl : l < r) (P : Ln) : E1 D g r k (l + 1) P ↔ E1 D g r k l P ∨ crs g k l P := by
  constructor
  · rintro (h | ⟨i, j, ⟨h1, h2, h3⟩, h4⟩)
    · exact Or.inl (Or.inl h)
    · by_cases c : i = k ∧ j = l
      · rw [c.1, c.2] at h4; exact Or.inr h4
      · exact Or.inl (Or.inr ⟨i, j, ⟨h1, h2, by omega⟩, h4⟩)
  · rintro ((h | ⟨i, j, ⟨h1, h2, h3⟩, h4⟩) | h)
    · exact Or.inl h
    · exact Or.inr ⟨i, j, ⟨h1, h2, by omega⟩, h4⟩
    · exact Or.inr ⟨k, l, ⟨hk, hl, by omega⟩, h⟩
theorem E1_out {D : Dt} {g : Nat → Ln} {r k l : Nat} (hl : r ≤ l) (P : Ln) : E1 D g r (k + 1) (k + 1 + 1) P ↔ E1 D g r k l P := by
  constructor
  · rintro (h | ⟨i, j, ⟨h1, h2, h3⟩, h4⟩)
    · exact Or.inl h
    · exact Or.inr ⟨i, j, ⟨h1, h2, by omega⟩, h4⟩
  · rintro (h | ⟨i, j, ⟨h1, h2, h3⟩, h4⟩)
    · exact Or.inl h
    · exact Or.inr ⟨i, j, ⟨h1, h2, by omega⟩, h4⟩
theorem E1_end {D : Dt} {g : Nat → Ln} {r : Nat} (P : Ln) : E1 D g r r (r + 1) P ↔ Ef D g r P := by
  constructor
  · rintro (h | ⟨i, j, ⟨h1, h2, h3⟩, h4⟩)
    · exact Or.inl h
    · exact Or.inr ⟨i, j, by omega, h2, h4⟩
  · rintro (h | ⟨i, j, h1, h2, h4⟩)
    · exact Or.inl h
    · by_cases c : i < j
      · exact Or.inr ⟨i, j, ⟨c, h2, by omega⟩, h4⟩
      · by_cases e : i = j
        · rw [e] at h4; exact (crs_ne h4).elim
        · exact Or.inr ⟨j, i, ⟨by omega, h1, by omega⟩, crs_sw h4⟩
theorem E1_sub {D : Dt} {g : Nat → Ln} {r k l : Nat} (P : Ln) (h : E1 D g r k l P) : EV D D.1 P ∨ ∃ i j, i < r ∧ j < r ∧ crs g i j P := by
  rcases h with h | ⟨i, j, ⟨h1, h2, h3⟩, h4⟩
  · exact Or.inl h
  · exact Or.inr ⟨i, j, by omega, h2, h4⟩
theorem cS_cg {D : Dt} {E F : Ln → Prop} (h : ∀ P, F P ↔ E P) (P : Ln) : cS D F P ↔ cS D E P := by
  unfold cS
  rw [h P]
theorem lo_on {M S : Mem} (h : on [(27, 29, none)] M S) : lo S = lo M := by
  funext i
  unfold lo
  rw [h.i 27 i rfl, h.i 28 i rfl, h.i 29 i rfl]
theorem loR_on {M S : Mem} (h : on [(79, 81, none)] M S) : loR S = loR M := by
  funext i
  unfold loR
  rw [h.i 79 i rfl, h.i 80 i rfl, h.i 81 i rfl]
theorem k_mcross {M : Mem} {n p r s : Nat} (h : DI M n p) (hr : r ≤ 105) (h26 : M.1 26 4 = nI r) (hsm : ∀ i, i < r → sm3 (rw3 M i)) (hg : lvP (cD M) (lo M) r) (hs : MdK M s (cS (cD M) (EV (cD M) n))) (K : Mem → Option Mem) : ∃ M1 s1, fX4_refresh_84 K FU 0 M = K M1 ∧ s1 ≤ 2 ∧ MdK M1 s1 (cS (cD M) (Ef (cD M) (lo M) r)) ∧ sm rgMd M M1 := by
  have hn := h.n15
  have hcn := h.cn
  have few1 : ∀ {S : Mem} {t k l : Nat}, MdK S t (cS (cD M) (E1 (cD M) (lo M) r k l)) → t ≤ 2 := fun q => few_of h hr hg q.2.2 (fun P w => by have := E1_sub P w; rw [hcn] at this; exact this)
  have hh := for_ex (σ := Mem) (fun f i s => fX4_refresh_84 K f i s) (fun s => K s) r
    (fun i S => sm rgMd M S ∧ ∃ s, MdK S s (cS (cD M) (E1 (cD M) (lo M) r i (i + 1)))) ?_ ?_ M ⟨sm_rf, s, hs.cg (cS_cg (fun P => by rw [E1_0, hcn]))⟩ FU (FU_gt (by omega))
  · obtain ⟨M1, q1, q2, s1, q4⟩ := hh
    exact ⟨M1, s1, q1, few1 q4, q4.cg (cS_cg (fun P => (E1_end P).symm)), q2⟩
  · rintro f k S hk ⟨g1, s, g3⟩
    have o := g1.on [(26, 29, none)] (by decide) (by decide)
    have hun : fX4_refresh_84 K (f + 1) (nI k) S = fX4_refresh_99 (fX4_refresh_122 (fX4_refresh_84 K f) K) FU (nI k) (nI (k + 1)) S := by
      rw [fX4_refresh_84, o.i 26 4 rfl, h26, if_neg (nI_ge hk (by omega)), nx_eq, nI_s]
    have hh := for_exF (σ := Mem) (fun g j s => fX4_refresh_99 (fX4_refresh_122 (fX4_refresh_84 K f) K) g (nI k) j s) (fun s => fX4_refresh_84 K f (nI (k + 1)) s) (k + 1) r (by omega)
      (fun l S => sm rgMd M S ∧ ∃ s, MdK S s (cS (cD M) (E1 (cD M) (lo M) r k l))) ?_ ?_ S ⟨g1, s, g3⟩ FU (by have := FU_gt (n := r) (by omega); omega)
    · obtain ⟨S1, q1, q2, s1, q4⟩ := hh
      exact ⟨S1, hun.trans q1, q2, s1, q4.cg (cS_cg (fun P => E1_out (Nat.le_refl _) P))⟩
    · rintro f2 l S hl1 hl2 ⟨g1, s, g3⟩
      have o := g1.on [(26, 29, none)] (by decide) (by decide)
      have hDS : DI S n p := DI_on (g1.on _ (by decide) (by decide)) h
      have e : cD S = cD M := cD_on (g1.on _ (by decide) (by decide))
      have el : lo S = lo M := lo_on (o.sub (by decide))
      have er : ∀ i, rw3 S i = rw3 M i := fun i => by unfold rw3; rw [o.i 27 i rfl, o.i 28 i rfl, o.i 29 i rfl]
      obtain ⟨S1, s1, a1, a3, a4⟩ := k_askC (k := k) (l := l) hDS (by rw [e]; exact g3) (by have := few1 g3; omega) (by omega) (by omega) (by rw [er]; exact hsm k hk) (by rw [er]; exact hsm l hl2)
      rw [e, el] at a3
      refine ⟨S1, ?_, g1.tr a4, s1, a3.cg (cS_cg (fun P => E1_in (by omega) hl2 P))⟩
      show fX4_refresh_99 _ (f2 + 1) (nI k) (nI l) S = _
      rw [fX4_refresh_99, o.i 26 4 rfl, h26, if_neg (nI_ge hl2 (by omega)), a1, Option.bind_some, nx_eq, nI_s]
    · rintro f2 S ⟨g1, -⟩
      have o := g1.on [(26, 29, none)] (by decide) (by decide)
      show fX4_refresh_99 _ (f2 + 1) (nI k) (nI r) S = _
      rw [fX4_refresh_99, o.i 26 4 rfl, h26, if_pos (nI_le (Nat.le_refl _) (by omega))]
      unfold fX4_refresh_122
      rw [nx_eq, nI_s]
  · rintro f S ⟨g1, -⟩
    have o := g1.on [(26, 29, none)] (by decide) (by decide)
    show fX4_refresh_84 K (f + 1) (nI r) S = _
    rw [fX4_refresh_84, o.i 26 4 rfl, h26, if_pos (nI_le (Nat.le_refl _) (by omega))]
theorem E2_0 {D : Dt} {g : Nat → Ln} (P : Ln) : E2 D g 0 0 P ↔ EV D D.1 P := by
  refine ⟨fun h => ?_, Or.inl⟩
  rcases h with h | ⟨i, j, ⟨h1, h2⟩, -⟩
  · exact h
  · omega
theorem E2_in {D : Dt} {g : Nat → Ln} {k l : Nat} (hk : l < k) (P : Ln) : E2 D g k (l + 1) P ↔ E2 D g k l P ∨ crs g k l P := by
  constructor
  · rintro (h | ⟨i, j, ⟨h1, h2⟩, h4⟩)
    · exact Or.inl (Or.inl h)
    · by_cases c : i = k ∧ j = l
      · rw [c.1, c.2] at h4; exact Or.inr h4
      · exact Or.inl (Or.inr ⟨i, j, ⟨h1, by omega⟩, h4⟩)
  · rintro ((h | ⟨i, j, ⟨h1, h2⟩, h4⟩) | h)
    · exact Or.inl h
    · exact Or.inr ⟨i, j, ⟨h1, by omega⟩, h4⟩
    · exact Or.inr ⟨k, l, ⟨hk, by omega⟩, h⟩
theorem E2_out {D : Dt} {g : Nat → Ln} {k : Nat} (P : Ln) : E2 D g (k + 1) 0 P ↔ E2 D g k k P := by
  constructor
  · rintro (h | ⟨i, j, ⟨h1, h2⟩, h4⟩)
    · exact Or.inl h
    · exact Or.inr ⟨i, j, ⟨h1, by omega⟩, h4⟩
  · rintro (h | ⟨i, j, ⟨h1, h2⟩, h4⟩)
    · exact Or.inl h
    · exact Or.inr ⟨i, j, ⟨h1, by omega⟩, h4⟩
theorem E2_end {D : Dt} {g : Nat → Ln} {r : Nat} (P : Ln) : E2 D g r 0 P ↔ Ef D g r P := by
  constructor
  · rintro (h | ⟨i, j, ⟨h1, h2⟩, h4⟩)
    · exact Or.inl h
    · exact Or.inr ⟨i, j, by omega, by omega, h4⟩
  · rintro (h | ⟨i, j, h1, h2, h4⟩)
    · exact Or.inl h
    · by_cases c : j < i
      · exact Or.inr ⟨i, j, ⟨c, by omega⟩, h4⟩
      · by_cases e : i = j
        · rw [e] at h4; exact (crs_ne h4).elim
        · exact Or.inr ⟨j, i, ⟨by omega, by omega⟩, crs_sw h4⟩
theorem E2_sub {D : Dt} {g : Nat → Ln} {r k l : Nat} (hk : k < r) (hl : l ≤ k) (P : Ln) (h : E2 D g k l P) : EV D D.1 P ∨ ∃ i j, i < r ∧ j < r ∧ crs g i j P := by
  rcases h with h | ⟨i, j, ⟨h1, h2⟩, h4⟩
  · exact Or.inl h
  · exact Or.inr ⟨i, j, by omega, by omega, h4⟩
theorem e_mcross {M : Mem} {n p r s : Nat} (h : DI M n p) (hr : r ≤ 105) (h27 : M.1 47 27 = nI r) (hsm : ∀ i, i < r → sm3 (rw3R M i)) (hg : lvP (cD M) (loR M) r) (hs : MdKR M s (cS (cD M) (EV (cD M) n))) (K : Mem → Option Mem) : ∃ M1 s1, fX11_findsMiddles_46 K FU 0 M = K M1 ∧ s1 ≤ 2 ∧ MdKR M1 s1 (cS (cD M) (Ef (cD M) (loR M) r)) ∧ sm rgMdR M M1 := by
  have hn := h.n15
  have hcn := h.cn
  have few1 : ∀ {S : Mem} {t : Nat}, MdKR S t (cS (cD M) (Ef (cD M) (loR M) r)) → t ≤ 2 := fun q => few_of h hr hg q.2.2 (fun P w => by unfold Ef at w; rw [hcn] at w; exact w)
  have few2 : ∀ {S : Mem} {t k l : Nat}, k < r → l ≤ k → MdKR S t (cS (cD M) (E2 (cD M) (loR M) k l)) → t ≤ 2 := fun a b q => few_of h hr hg q.2.2 (fun P w => by have := E2_sub a b P w; rw [hcn] at this; exact this)
  have hh := for_ex (σ := Mem) (fun f i s => fX11_findsMiddles_46 K f i s) (fun s => K s) r
    (fun i S => sm rgMdR M S ∧ ∃ s, MdKR S s (cS (cD M) (E2 (cD M) (loR M) i 0))) ?_ ?_ M ⟨sm_rf, s, hs.cg (cS_cg (fun P => by rw [E2_0, hcn]))⟩ FU (FU_gt (by omega))
  · obtain ⟨M1, q1, q2, s1, q4⟩ := hh
    have q5 := q4.cg (cS_cg (fun P => (E2_end P).symm))
    exact ⟨M1, s1, q1, few1 q5, q5, q2⟩
  · rintro f k S hk ⟨g1, s, g3⟩
    have o := g1.on [(47, 47, some 27), (79, 81, none)] (by decide) (by decide)
    have hun : fX11_findsMiddles_46 K (f + 1) (nI k) S = fX11_findsMiddles_56 (fX11_findsMiddles_175 (fX11_findsMiddles_46 K f) K) FU (nI k) (nI 0) S := by
      rw [fX11_findsMiddles_46, o.i 47 27 rfl, h27, if_neg (nI_ge hk (by omega))]; rfl
    have hh := for_ex (σ := Mem) (fun g j s => fX11_findsMiddles_56 (fX11_findsMiddles_175 (fX11_findsMiddles_46 K f) K) g (nI k) j s) (fun s => fX11_findsMiddles_46 K f (nI (k + 1)) s) k
      (fun l S => sm rgMdR M S ∧ ∃ s, MdKR S s (cS (cD M) (E2 (cD M) (loR M) k l))) ?_ ?_ S ⟨g1, s, g3⟩ FU (FU_gt (by omega))
    · obtain ⟨S1, q1, q2, s1, q4⟩ := hh
      exact ⟨S1, hun.trans q1, q2, s1, q4.cg (cS_cg (fun P => E2_out P))⟩
    · rintro f2 l S hl ⟨g1, s, g3⟩
      have o := g1.on [(47, 47, some 27), (79, 81, none)] (by decide) (by decide)
      have hDS : DI S n p := DI_on (g1.on _ (by decide) (by decide)) h
      have e : cD S = cD M := cD_on (g1.on _ (by decide) (by decide))
      have el : loR S = loR M := loR_on (o.sub (by decide))
      have er : ∀ i, rw3R S i = rw3R M i := fun i => by unfold rw3R; rw [o.i 79 i rfl, o.i 80 i rfl, o.i 81 i rfl]
      have sk : sm3 (rw3R S k) := by rw [er]; exact hsm k hk
      have sl : sm3 (rw3R S l) := by rw [er]; exact hsm l (by omega)
      have ik := inb_nI (show k < 105 by omega) (by decide)
      have il := inb_nI (show l < 105 by omega) (by decide)
      obtain ⟨e1, e2, e3, e4⟩ := c3_i sk sl
      have hun : fX11_findsMiddles_56 (fX11_findsMiddles_175 (fX11_findsMiddles_46 K f) K) (f2 + 1) (nI k) (nI l) S = if c3N (rw3R S k) (rw3R S l) = 0 then fX11_findsMiddles_56 (fX11_findsMiddles_175 (fX11_findsMiddles_46 K f) K) f2 (nI k) (nI (l + 1)) S else (fX11_addsMiddle (c3X (rw3R S k) (rw3R S l)) (c3Y (rw3R S k) (rw3R S l)) (c3N (rw3R S k) (rw3R S l)) S).bind (fun q => fX11_findsMiddles_56 (fX11_findsMiddles_175 (fX11_findsMiddles_46 K f) K) f2 (nI k) (nI (l + 1)) q) := by
        rw [fX11_findsMiddles_56, if_neg (nI_ge hl (by omega))]
        unfold fX11_findsMiddles_169
        simp only [ik, il, if_true, ix_nI (show k < 2147483648 by omega), ix_nI (show l < 2147483648 by omega), lg_eq, nx_eq, nI_s]
        rfl
      by_cases c : c3N (rw3R S k) (rw3R S l) = 0
      · rw [if_pos c] at hun
        have c' : (c3N (rw3R S k) (rw3R S l)).toInt = 0 := by rw [c]; rfl
        refine ⟨S, hun, g1, s, g3.cg (cS_cg (fun P => ?_))⟩
        rw [E2_in hl]
        have := c3_no (g := loR M) (i := k) (j := l) sk sl (by rw [← el]; rfl) (by rw [← el]; rfl) c' P
        simp [this]
      · rw [if_neg c] at hun
        have c' : (c3N (rw3R S k) (rw3R S l)).toInt ≠ 0 := fun q => c ((fa_eq64 _ _).mpr q)
        obtain ⟨S1, s1, a1, a2, -, a3, a4⟩ := e_ask hDS g3 (by have := few2 hk (by omega) g3; omega) (e4 c')
        rw [e] at a3
        rw [a1, Option.bind_some] at hun
        refine ⟨S1, hun, g1.tr a4, s1, a3.cg (fun P => ?_)⟩
        refine cS_add (e4 c') (fun P hP => ?_) P
        rw [E2_in hl, c3_crs (g := loR M) (i := k) (j := l) sk sl (by rw [← el]; rfl) (by rw [← el]; rfl) c' P]
    · rintro f2 S ⟨g1, -⟩
      show fX11_findsMiddles_56 _ (f2 + 1) (nI k) (nI k) S = _
      rw [fX11_findsMiddles_56, if_pos (nI_le (Nat.le_refl _) (by omega))]
      unfold fX11_findsMiddles_175
      rw [nx_eq, nI_s]
  · rintro f S ⟨g1, -⟩
    have o := g1.on [(47, 47, some 27)] (by decide) (by decide)
    show fX11_findsMiddles_46 K (f + 1) (nI r) S = _
    rw [fX11_findsMiddles_46, o.i 47 27 rfl, h27, if_pos (nI_le (Nat.le_refl _) (by omega))]
