/-! the line through two voters -/
def trA (D : Dt) (v u : Nat) : Int32 := D.2.2.1 u - D.2.2.1 v
def trB (D : Dt) (v u : Nat) : Int32 := D.2.1 v - D.2.1 u
def gP (a b : Int32) : Int32 := if a < 0 ∨ (a = 0 ∧ b < 0) then - nI (Nat.gcd a.toInt.natAbs b.toInt.natAbs) else nI (Nat.gcd a.toInt.natAbs b.toInt.natAbs)
def lnA (D : Dt) (v u : Nat) : Int32 := trA D v u / gP (trA D v u) (trB D v u)
def lnB (D : Dt) (v u : Nat) : Int32 := trB D v u / gP (trA D v u) (trB D v u)
def lnC (D : Dt) (v u : Nat) : Int32 := lnA D v u * D.2.1 v + lnB D v u * D.2.2.1 v
theorem div_i {x y : Int32} (hx : -99 ≤ x.toInt ∧ x.toInt ≤ 99) (hy : y.toInt ≠ 0) : (x / y).toInt = x.toInt.tdiv y.toInt ∧ (x.toInt.tdiv y.toInt).natAbs ≤ 99 := by
  have h1 : (x.toInt.tdiv y.toInt).natAbs = x.toInt.natAbs / y.toInt.natAbs := Int.natAbs_tdiv ..
  have h2 : x.toInt.natAbs / y.toInt.natAbs ≤ x.toInt.natAbs := Nat.div_le_self _ _
  have h3 : (x.toInt.tdiv y.toInt).natAbs ≤ 99 := by omega
  refine ⟨?_, h3⟩
  rw [Int32.toInt_div, fb_bmod (by omega) (by omega)]
theorem gP_i {a b : Int32} (ha : -99 ≤ a.toInt ∧ a.toInt ≤ 99) (hb : -99 ≤ b.toInt ∧ b.toInt ≤ 99) (h0 : ¬ (a = 0 ∧ b = 0)) : 0 < Nat.gcd a.toInt.natAbs b.toInt.natAbs ∧ Nat.gcd a.toInt.natAbs b.toInt.natAbs ≤ 99 ∧ (gP a b).toInt = (if a.toInt < 0 ∨ (a.toInt = 0 ∧ b.toInt < 0) then - (Nat.gcd a.toInt.natAbs b.toInt.natAbs : Int) else (Nat.gcd a.toInt.natAbs b.toInt.natAbs : Int)) := by
  have z : (0 : Int32).toInt = 0 := rfl
  have e0 : ¬ (a.toInt = 0 ∧ b.toInt = 0) := fun q => h0 ⟨(fa_eq _ _).mpr q.1, (fa_eq _ _).mpr q.2⟩
  have g0 : 0 < Nat.gcd a.toInt.natAbs b.toInt.natAbs := by
    by_cases c : a.toInt = 0
    · exact Nat.gcd_pos_of_pos_right _ (by omega)
    · exact Nat.gcd_pos_of_pos_left _ (by omega)
  have g1 : Nat.gcd a.toInt.natAbs b.toInt.natAbs ≤ 99 := by
    by_cases c : a.toInt = 0
    · have := Nat.le_of_dvd (show 0 < b.toInt.natAbs by omega) (Nat.gcd_dvd_right a.toInt.natAbs b.toInt.natAbs)
      omega
    · have := Nat.le_of_dvd (show 0 < a.toInt.natAbs by omega) (Nat.gcd_dvd_left a.toInt.natAbs b.toInt.natAbs)
      omega
  refine ⟨g0, g1, ?_⟩
  have c1 : (a < 0 ∨ (a = 0 ∧ b < 0)) ↔ (a.toInt < 0 ∨ (a.toInt = 0 ∧ b.toInt < 0)) := by
    rw [fa_lt, fa_lt, fa_eq, z]
  unfold gP
  have hn : (nI (Nat.gcd a.toInt.natAbs b.toInt.natAbs)).toInt = (Nat.gcd a.toInt.natAbs b.toInt.natAbs : Int) := nI_toInt (by omega)
  by_cases c : a.toInt < 0 ∨ (a.toInt = 0 ∧ b.toInt < 0)
  · rw [if_pos (c1.mpr c), if_pos c, fb_negI (by rw [hn]; omega), hn]
  · rw [if_neg (fun q => c (c1.mp q)), if_neg c, hn]
theorem tdiv_neg_neg {x g : Int} (hx : x ≤ 0) (hg : 0 < g) : 0 ≤ x.tdiv (-g) ∧ (x < 0 → g ∣ x → 0 < x.tdiv (-g)) := by
  have e : x.tdiv (-g) = (-x) / g := by
    rw [Int.tdiv_neg, ← Int.neg_tdiv, Int.tdiv_eq_ediv_of_nonneg (by omega)]
  rw [e]
  refine ⟨Int.ediv_nonneg (by omega) (by omega), fun h1 h2 => ?_⟩
  obtain ⟨k, hk⟩ := h2
  have : (-x) / g = -k := by
    rw [hk, ← Int.mul_neg, Int.mul_ediv_cancel_left _ (by omega)]
  rw [this]
  by_cases c : 0 ≤ k
  · have := Int.mul_nonneg (show 0 ≤ g by omega) c
    omega
  · omega
theorem tdiv_pos_pos {x g : Int} (hx : 0 < x) (hg : 0 < g) (h2 : g ∣ x) : 0 < x.tdiv g := by
  rw [Int.tdiv_eq_ediv_of_nonneg (by omega)]
  obtain ⟨k, hk⟩ := h2
  have : x / g = k := by rw [hk, Int.mul_ediv_cancel_left _ (by omega)]
  rw [this]
  by_cases c : k ≤ 0
  · have := Int.mul_nonneg (show 0 ≤ g by omega) (show 0 ≤ -k by omega)
    rw [Int.mul_neg] at this
    omega
  · omega
theorem gcd_dd {a b : Nat} (h : 0 < Nat.gcd a b) : Nat.gcd (a / Nat.gcd a b) (b / Nat.gcd a b) = 1 := by
  have ha := Nat.div_mul_cancel (Nat.gcd_dvd_left a b)
  have hb := Nat.div_mul_cancel (Nat.gcd_dvd_right a b)
  have e := Nat.gcd_mul_right (a / Nat.gcd a b) (Nat.gcd a b) (b / Nat.gcd a b)
  rw [ha, hb] at e
  exact Nat.eq_of_mul_eq_mul_right h (by rw [Nat.one_mul]; exact e.symm)
theorem norm_ok {D : Dt} {v u : Nat} (hx : inN (D.2.1 v) 100 = true) (hy : inN (D.2.2.1 v) 100 = true) (hx2 : inN (D.2.1 u) 100 = true) (hy2 : inN (D.2.2.1 u) 100 = true) (h0 : ¬ (trA D v u = 0 ∧ trB D v u = 0)) :
    smL (lnA D v u) (lnB D v u) (lnC D v u) ∧ lnOk ((lnA D v u).toInt, (lnB D v u).toInt, (lnC D v u).toInt) := by
  have i1 := inN_i.mp hx
  have i2 := inN_i.mp hy
  have i3 := inN_i.mp hx2
  have i4 := inN_i.mp hy2
  have ta : (trA D v u).toInt = (D.2.2.1 u).toInt - (D.2.2.1 v).toInt := fb_subI (by omega) (by omega)
  have tb : (trB D v u).toInt = (D.2.1 v).toInt - (D.2.1 u).toInt := fb_subI (by omega) (by omega)
  have ra : -99 ≤ (trA D v u).toInt ∧ (trA D v u).toInt ≤ 99 := by omega
  have rb : -99 ≤ (trB D v u).toInt ∧ (trB D v u).toInt ≤ 99 := by omega
  obtain ⟨g0, g1, g2⟩ := gP_i ra rb h0
  have e0 : ¬ ((trA D v u).toInt = 0 ∧ (trB D v u).toInt = 0) := fun q => h0 ⟨(fa_eq _ _).mpr q.1, (fa_eq _ _).mpr q.2⟩
  have gn : (gP (trA D v u) (trB D v u)).toInt ≠ 0 := by rw [g2]; split <;> omega
  obtain ⟨a1, a2⟩ := div_i ra gn
  obtain ⟨b1, b2⟩ := div_i rb gn
  have a1 : (lnA D v u).toInt = (trA D v u).toInt.tdiv (gP (trA D v u) (trB D v u)).toInt := a1
  have b1 : (lnB D v u).toInt = (trB D v u).toInt.tdiv (gP (trA D v u) (trB D v u)).toInt := b1
  have sa : -99 ≤ (lnA D v u).toInt ∧ (lnA D v u).toInt ≤ 99 := by rw [a1]; omega
  have sb : -99 ≤ (lnB D v u).toInt ∧ (lnB D v u).toInt ≤ 99 := by rw [b1]; omega
  have hC : -20000 ≤ (lnC D v u).toInt ∧ (lnC D v u).toInt ≤ 20000 := by
    have := pv_i (D := D) (A := lnA D v u) (B := lnB D v u) (C := 0) (v := v) ⟨sa, sb, by decide⟩ hx hy
    have e : pv D (lnA D v u) (lnB D v u) v = lnC D v u := rfl
    rw [e] at this
    omega
  refine ⟨⟨sa, sb, hC⟩, ?_, ?_⟩
  · show (0 < (lnA D v u).toInt) ∨ ((lnA D v u).toInt = 0 ∧ 0 < (lnB D v u).toInt)
    rw [a1, b1, g2]
    have da : (Nat.gcd (trA D v u).toInt.natAbs (trB D v u).toInt.natAbs : Int) ∣ (trA D v u).toInt := Int.ofNat_dvd_left.mpr (Nat.gcd_dvd_left _ _)
    have db : (Nat.gcd (trA D v u).toInt.natAbs (trB D v u).toInt.natAbs : Int) ∣ (trB D v u).toInt := Int.ofNat_dvd_left.mpr (Nat.gcd_dvd_right _ _)
    have gp : (0 : Int) < (Nat.gcd (trA D v u).toInt.natAbs (trB D v u).toInt.natAbs : Int) := by omega
    generalize (Nat.gcd (trA D v u).toInt.natAbs (trB D v u).toInt.natAbs : Int) = g at da db gp
    by_cases c : (trA D v u).toInt < 0 ∨ ((trA D v u).toInt = 0 ∧ (trB D v u).toInt < 0)
    · rw [if_pos c]
      rcases c with c | ⟨c1, c2⟩
      · exact Or.inl ((tdiv_neg_neg (by omega) gp).2 c da)
      · right
        rw [c1]
        exact ⟨Int.zero_tdiv _, (tdiv_neg_neg (by omega) gp).2 c2 db⟩
    · rw [if_neg c]
      by_cases c1 : (trA D v u).toInt = 0
      · right
        rw [c1]
        exact ⟨Int.zero_tdiv _, tdiv_pos_pos (by omega) gp db⟩
      · exact Or.inl (tdiv_pos_pos (by omega) gp da)
  · show Nat.gcd (lnA D v u).toInt.natAbs (lnB D v u).toInt.natAbs = 1
    rw [a1, b1, Int.natAbs_tdiv, Int.natAbs_tdiv]
    have eg : (gP (trA D v u) (trB D v u)).toInt.natAbs = Nat.gcd (trA D v u).toInt.natAbs (trB D v u).toInt.natAbs := by
      rw [g2]; split <;> omega
    rw [eg]
    exact gcd_dd g0
