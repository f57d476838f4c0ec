/-! the reference's own rows -/
def RI (M : Mem) (n p : Nat) : Prop := n ≤ 15 ∧ p ≤ 20 ∧ M.1 73 0 = nI n ∧ M.1 74 0 = nI p ∧ okB (rB M) ∧ ((rB M).1 ≠ 0 → 1 ≤ (rB M).2.1.toInt ∧ (rB M).2.1.toInt ≤ 99) ∧ 0 ≤ (totD (rD M)).toInt ∧ (totD (rD M)).toInt ≤ 135
theorem RI.p20 {M : Mem} {n p : Nat} (h : RI M n p) : p ≤ 20 := h.2.1
theorem bt_self {D : Dt} {B : Bt} (hB : okB B) (hb : B.1 ≠ 0 → 1 ≤ B.2.1.toInt ∧ B.2.1.toInt ≤ 99) (t0 : 0 ≤ (totD D).toInt) (t1 : (totD D).toInt ≤ 135) (x y : Int32) : btD D B x y x y = false := by
  unfold btD
  rw [for_self]
  unfold wonD
  have h0 : ¬ (0 : Int32) < 0 := by decide
  rcases hB with hB | hB | hB
  · rw [if_pos hB]; decide
  · rw [if_neg (by rw [hB]; decide), if_pos hB]
    obtain ⟨b1, b2⟩ := hb (by rw [hB]; decide)
    have hm : (B.2.1 * totD D).toInt = B.2.1.toInt * (totD D).toInt := by
      rw [Int32.toInt_mul, fb_bmod]
      · have := Int.mul_nonneg (a := B.2.1.toInt) (b := (totD D).toInt) (by omega) (by omega)
        omega
      · have := Int.mul_le_mul (a := B.2.1.toInt) (b := (totD D).toInt) (c := 99) (d := 135) (by omega) (by omega) (by omega) (by omega)
        omega
    have hpos := Int.mul_nonneg (a := B.2.1.toInt) (b := (totD D).toInt) (by omega) (by omega)
    have hz : (0 : Int32) * B.2.2 = 0 := Int32.zero_mul
    rw [hz, decide_eq_false_iff_not, fa_lt, hm]
    have : (0 : Int32).toInt = 0 := rfl
    omega
  · rw [if_neg (by rw [hB]; decide), if_neg (by rw [hB]; decide)]
    simp [h0]
theorem DI.ri {M : Mem} {n p : Nat} (h : DI M n p) : RI M n p := by
  have ht := h.tot
  have hn := h.n15
  obtain ⟨⟨-, hp, -⟩, ⟨h1, h2, h3, h4⟩, hv, hq, hD, hP, ⟨hB, hB2, hb⟩, -⟩ := h
  rw [hD.tot] at ht
  refine ⟨hn, hp, h3, h4, ?_, ?_, by omega, by omega⟩
  · unfold okB at hB2 ⊢; rw [← hB.1]; exact hB2
  · intro e
    rw [← hB.1] at e
    rw [← hB.2 e]
    exact hb e
theorem eR_nB {M : Mem} {n p : Nat} (h : RI M n p) {a b : Nat} (ha : a < p) (hb : b < p) : fX11_beatsOf M (nI a) (nI b) = some (bI (nB (rD M) (rP M) (rB M) a b)) := by
  have := h.p20
  rw [e_beatsOf M h.2.2.1 h.1 (by omega) (by omega)]
  rfl
theorem bqR_nB {M : Mem} {n p : Nat} (h : RI M n p) (i q : Nat) : bq (rD M) (rP M) (rB M) i q = nB (rD M) (rP M) (rB M) q i := by
  unfold bq
  by_cases e : q = i
  · subst e
    have : nB (rD M) (rP M) (rB M) q q = false := bt_self h.2.2.2.2.1 h.2.2.2.2.2.1 h.2.2.2.2.2.2.1 h.2.2.2.2.2.2.2 _ _
    rw [this]; simp
  · simp [e]
theorem eR_isUnbeaten {M : Mem} {n p : Nat} (h : RI M n p) {i : Nat} (hi : i < p) : fX11_isUnbeaten M (nI i) = some (bI (decide (fb_ct (bq (rD M) (rP M) (rB M) i) p = 0))) := by
  have hp := h.p20
  unfold fX11_isUnbeaten
  have hh := for_anyB (fun f q => fX11_isUnbeaten_2 M (fX11_isUnbeaten_24 M) (fX11_isUnbeaten_32 M) f (nI i) q) (some 1) (some 0) (bq (rD M) (rP M) (rB M) i) p ?_ ?_ FU (FU_gt (by omega))
  · have : (0 : Int32) = nI 0 := rfl
    rw [this]
    refine Eq.trans hh ?_
    cases hc : anyN (bq (rD M) (rP M) (rB M) i) p with
    | false => rw [anyN_ct.mp hc]; rfl
    | true =>
      have : ¬ fb_ct (bq (rD M) (rP M) (rB M) i) p = 0 := fun q => by rw [anyN_ct.mpr q] at hc; cases hc
      simp only [this, decide_false]; rfl
  · intro f q hq
    show fX11_isUnbeaten_2 M (fX11_isUnbeaten_24 M) (fX11_isUnbeaten_32 M) (f + 1) (nI i) (nI q) = _
    rw [fX11_isUnbeaten_2, e_places, Option.bind_some, h.2.2.2.1, if_neg (nI_ge hq (by omega))]
    unfold fX11_isUnbeaten_26 fX11_isUnbeaten_24
    simp only [nx_eq, nI_s]
    by_cases e : q = i
    · subst e
      rw [if_pos rfl, if_neg (by simp [bq])]
    · have : ¬ nI q = nI i := fun r => e ((nI_eq (by omega) (by omega)).mp r)
      rw [if_neg this, eR_nB h hq hi, Option.bind_some, bqR_nB h]
      cases nB (rD M) (rP M) (rB M) q i <;> rfl
  · intro f
    show fX11_isUnbeaten_2 M (fX11_isUnbeaten_24 M) (fX11_isUnbeaten_32 M) (f + 1) (nI i) (nI p) = _
    rw [fX11_isUnbeaten_2, e_places, Option.bind_some, h.2.2.2.1, if_pos (nI_le (Nat.le_refl _) (by omega))]
    rfl
theorem eR_pairs {M : Mem} {n p : Nat} (h : RI M n p) : fX11_pairs M = some (nI (psN (rD M) (rP M) (rB M) p p)) := by
  have hp20 := h.p20
  unfold fX11_pairs
  have hh := (for_up (σ := Int32) (fun f i acc => fX11_pairs_4 M (fX11_pairs_51 M) f acc i) (fun acc => some acc) p
    (fun i acc => acc + nI (fb_ct (nB (rD M) (rP M) (rB M) i) p)) (fun _ _ => True) ?_ (fun _ _ _ _ => trivial) ?_ 0 trivial FU (FU_gt (by omega))).1
  · refine Eq.trans hh ?_
    have e1 : ∀ m, fd (fun i (acc : Int32) => acc + nI (fb_ct (nB (rD M) (rP M) (rB M) i) p)) 0 m = nI (sN (fun i => fb_ct (nB (rD M) (rP M) (rB M) i) p) m) := by
      intro m
      induction m with
      | zero => rfl
      | succ m ih =>
        show fd _ 0 m + _ = _
        rw [ih, nI_add]
        rfl
    rw [e1, ps_sN]
    congr 2
    have a1 : sN (fun i => fb_ct (nB (rD M) (rP M) (rB M) i) p) p = sN (fun i => sN (fun j => if nB (rD M) (rP M) (rB M) i j then 1 else 0) p) p := sN_congr (fun i _ => ct_sN _ _)
    have a2 : sN (fun i => fb_ct (bq (rD M) (rP M) (rB M) i) p) p = sN (fun i => sN (fun j => if nB (rD M) (rP M) (rB M) j i then 1 else 0) p) p := sN_congr (fun i _ => by
      rw [ct_sN]
      exact sN_congr (fun j _ => by rw [bqR_nB h]))
    rw [a1, a2, sN_swap]
  · intro f i s hi _
    show fX11_pairs_4 M (fX11_pairs_51 M) (f + 1) s (nI i) = _
    rw [fX11_pairs_4, e_places, Option.bind_some, h.2.2.2.1, if_neg (nI_ge hi (by omega))]
    have h2 := (for_up (σ := Int32) (fun f2 j acc => fX11_pairs_14 M (fX11_pairs_45 M (fX11_pairs_4 M (fX11_pairs_51 M) f) (fX11_pairs_51 M)) f2 acc (nI i) j) (fun acc => fX11_pairs_45 M (fX11_pairs_4 M (fX11_pairs_51 M) f) (fX11_pairs_51 M) acc (nI i)) p
      (fun j acc => acc + bI (nB (rD M) (rP M) (rB M) i j)) (fun _ _ => True) ?_ (fun _ _ _ _ => trivial) ?_ s trivial FU (FU_gt (by omega))).1
    · refine Eq.trans h2 ?_
      unfold fX11_pairs_45
      simp only [nx_eq, nI_s]
      have e2 : ∀ m, fd (fun j (acc : Int32) => acc + bI (nB (rD M) (rP M) (rB M) i j)) s m = s + nI (fb_ct (nB (rD M) (rP M) (rB M) i) m) := by
        intro m
        induction m with
        | zero => show s = s + 0; rw [Int32.add_zero]
        | succ m ih =>
          show fd _ s m + _ = _
          rw [ih, fb_ct_succ, Int32.add_assoc]
          congr 1
          have : bI (nB (rD M) (rP M) (rB M) i m) = nI (if nB (rD M) (rP M) (rB M) i m then 1 else 0) := by cases nB (rD M) (rP M) (rB M) i m <;> rfl
          rw [this, nI_add]
      rw [e2]
    · intro f2 j s2 hj _
      show fX11_pairs_14 M _ (f2 + 1) s2 (nI i) (nI j) = _
      rw [fX11_pairs_14, e_places, Option.bind_some, h.2.2.2.1, if_neg (nI_ge hj (by omega)), eR_nB h hi hj, Option.bind_some]
      unfold fX11_pairs_37
      simp only [nx_eq, nI_s]
      cases nB (rD M) (rP M) (rB M) i j <;> rfl
    · intro f2 s2 _
      show fX11_pairs_14 M _ (f2 + 1) s2 (nI i) (nI p) = _
      rw [fX11_pairs_14, e_places, Option.bind_some, h.2.2.2.1, if_pos (nI_le (Nat.le_refl _) (by omega))]
  · intro f s _
    show fX11_pairs_4 M (fX11_pairs_51 M) (f + 1) s (nI p) = _
    rw [fX11_pairs_4, e_places, Option.bind_some, h.2.2.2.1, if_pos (nI_le (Nat.le_refl _) (by omega))]
    rfl
theorem eR_peace {M : Mem} {n p : Nat} (h : RI M n p) : fX11_peace M = some (ubI (rD M) (rP M) (rB M) p p) := by
  have hp := h.p20
  unfold fX11_peace
  rw [ubI_ff _ _ _ _ p hp]
  have hh := for_any (fun f q => fX11_peace_2 M (fX11_peace_18 M) (fX11_peace_26 M) f q) (some (-1)) (fun i => some (nI i)) (fun i => decide (fb_ct (bq (rD M) (rP M) (rB M) i) p = 0)) p ?_ ?_ FU (FU_gt (by omega))
  · have : (0 : Int32) = nI 0 := rfl
    rw [this]
    refine Eq.trans hh ?_
    cases ff (fun i => decide (fb_ct (bq (rD M) (rP M) (rB M) i) p = 0)) p <;> rfl
  · intro f q hq
    show fX11_peace_2 M (fX11_peace_18 M) (fX11_peace_26 M) (f + 1) (nI q) = _
    rw [fX11_peace_2, e_places, Option.bind_some, h.2.2.2.1, if_neg (nI_ge hq (by omega)), eR_isUnbeaten h hq, Option.bind_some]
    unfold fX11_peace_18
    simp only [nx_eq, nI_s]
    by_cases e : fb_ct (bq (rD M) (rP M) (rB M) q) p = 0
    · simp only [e, decide_true]; rfl
    · simp only [e, decide_false]; rfl
  · intro f
    show fX11_peace_2 M (fX11_peace_18 M) (fX11_peace_26 M) (f + 1) (nI p) = _
    rw [fX11_peace_2, e_places, Option.bind_some, h.2.2.2.1, if_pos (nI_le (Nat.le_refl _) (by omega))]
    rfl
/-- both objects' rows tell the same -/
theorem bq_eq {D D1 : Dt} {P P1 : Pq} {B B1 : Bt} {p : Nat} (hD : eqD D D1) (hB : eqB B B1) (hP : ∀ q, q < p → P1.2.1 q = P.2.1 q ∧ P1.2.2 q = P.2.2 q) {i q : Nat} (hi : i < p) (hq : q < p) : bq D P B i q = bq D1 P1 B1 i q := by
  unfold bq nB
  rw [eq_bt hD hB, (hP i hi).1, (hP i hi).2, (hP q hq).1, (hP q hq).2]
theorem ct_eq {D D1 : Dt} {P P1 : Pq} {B B1 : Bt} {p : Nat} (hD : eqD D D1) (hB : eqB B B1) (hP : ∀ q, q < p → P1.2.1 q = P.2.1 q ∧ P1.2.2 q = P.2.2 q) {i : Nat} (hi : i < p) : fb_ct (bq D P B i) p = fb_ct (bq D1 P1 B1 i) p := fb_ct_cong fun q hq => bq_eq hD hB hP hi hq
theorem ps_eq {D D1 : Dt} {P P1 : Pq} {B B1 : Bt} {p : Nat} (hD : eqD D D1) (hB : eqB B B1) (hP : ∀ q, q < p → P1.2.1 q = P.2.1 q ∧ P1.2.2 q = P.2.2 q) : ∀ i, i ≤ p → psN D P B p i = psN D1 P1 B1 p i
  | 0, _ => rfl
  | i + 1, h => by rw [psN, psN, ps_eq hD hB hP i (by omega), ct_eq hD hB hP (by omega)]
theorem ub_eq {D D1 : Dt} {P P1 : Pq} {B B1 : Bt} {p : Nat} (hD : eqD D D1) (hB : eqB B B1) (hP : ∀ q, q < p → P1.2.1 q = P.2.1 q ∧ P1.2.2 q = P.2.2 q) : ∀ i, i ≤ p → ubI D P B p i = ubI D1 P1 B1 p i
  | 0, _ => rfl
  | i + 1, h => by rw [ubI, ubI, ub_eq hD hB hP i (by omega), ct_eq hD hB hP (by omega)]
theorem DI.ps {M : Mem} {n p : Nat} (h : DI M n p) : psN (cD M) (cP M) (cB M) p p = psN (rD M) (rP M) (rB M) p p := by
  obtain ⟨-, -, -, -, hD, hP, ⟨hB, -⟩, -⟩ := h
  exact ps_eq hD hB hP p (Nat.le_refl _)
theorem DI.ub {M : Mem} {n p : Nat} (h : DI M n p) : ubI (cD M) (cP M) (cB M) p p = ubI (rD M) (rP M) (rB M) p p := by
  obtain ⟨-, -, -, -, hD, hP, ⟨hB, -⟩, -⟩ := h
  exact ub_eq hD hB hP p (Nat.le_refl _)
