/-! halving lines -/
def pv (D : Dt) (A B : Int32) (v : Nat) : Int32 := A * D.2.1 v + B * D.2.2.1 v
def blw (D : Dt) (A B C : Int32) (m : Nat) : Int32 := sm_ (fun v => if pv D A B v < C then D.2.2.2.1 v else 0) m
def abv (D : Dt) (A B C : Int32) (m : Nat) : Int32 := sm_ (fun v => if C < pv D A B v then D.2.2.2.1 v else 0) m
def hvD (D : Dt) (A B C : Int32) : Bool := !(decide (totD D < 2 * blw D A B C D.1)) && !(decide (totD D < 2 * abv D A B C D.1))
/-- a, b within 99 and c within 20000 -/
def smL (A B C : Int32) : Prop := (-99 ≤ A.toInt ∧ A.toInt ≤ 99) ∧ (-99 ≤ B.toInt ∧ B.toInt ≤ 99) ∧ (-20000 ≤ C.toInt ∧ C.toInt ≤ 20000)
theorem pr_rng {a b : Int} (h1 : -99 ≤ a) (h2 : a ≤ 99) (h3 : 0 ≤ b) (h4 : b ≤ 99) : -9801 ≤ a * b ∧ a * b ≤ 9801 := by
  have e1 : a * b ≤ 99 * b := Int.mul_le_mul_of_nonneg_right h2 h3
  have e2 : -99 * b ≤ a * b := Int.mul_le_mul_of_nonneg_right h1 h3
  omega
theorem pv_i {D : Dt} {A B C : Int32} {v : Nat} (hs : smL A B C) (hx : inN (D.2.1 v) 100 = true) (hy : inN (D.2.2.1 v) 100 = true) : (pv D A B v).toInt = A.toInt * (D.2.1 v).toInt + B.toInt * (D.2.2.1 v).toInt ∧ -19602 ≤ (pv D A B v).toInt ∧ (pv D A B v).toInt ≤ 19602 := by
  have h1 := inN_i.mp hx
  have h2 := inN_i.mp hy
  obtain ⟨⟨a1, a2⟩, ⟨b1, b2⟩, -⟩ := hs
  obtain ⟨p1, p2⟩ := pr_rng a1 a2 h1.1 (by omega)
  obtain ⟨q1, q2⟩ := pr_rng b1 b2 h2.1 (by omega)
  have m1 : (A * D.2.1 v).toInt = A.toInt * (D.2.1 v).toInt := fb_mulI (by omega) (by omega)
  have m2 : (B * D.2.2.1 v).toInt = B.toInt * (D.2.2.1 v).toInt := fb_mulI (by omega) (by omega)
  unfold pv
  rw [fb_addI (by rw [m1, m2]; omega) (by rw [m1, m2]; omega), m1, m2]
  omega
theorem k_isHalving {M : Mem} {n p : Nat} (h : DI M n p) {A B C : Int32} (hs : smL A B C) : fX2_isHalving M A B C = some (bI (hvD (cD M) A B C)) := by
  have hn := h.n15
  unfold fX2_isHalving
  have hh := for_ex (σ := Int32 × Int32) (fun f v s => fX2_isHalving_9 M (fX2_isHalving_99 M) f A B C s.1 s.2 v) (fun s => fX2_isHalving_99 M s.1 s.2) n
    (fun i s => s = (blw (cD M) A B C i, abv (cD M) A B C i)) ?_ ?_ (0, 0) rfl FU (FU_gt (by omega))
  · obtain ⟨s, h1, h2⟩ := hh
    rw [h2] at h1
    refine Eq.trans h1 ?_
    show fX2_isHalving_99 M (blw (cD M) A B C n) (abv (cD M) A B C n) = _
    unfold fX2_isHalving_99 fX2_isHalving_127 fX2_isHalving_128 hvD
    have hm : ∀ x, fX8_isMoreThanHalf_t M x = some (bI (decide (totD (cD M) < 2 * x))) := by
      intro x
      unfold fX8_isMoreThanHalf_t
      simp only [h.2.2.2.2.2.2.2]
      have le_iff : (2 * x ≤ totD (cD M)) ↔ ¬ totD (cD M) < 2 * x := by rw [fa_le, fa_lt]; omega
      by_cases c : totD (cD M) < 2 * x
      · simp [le_iff, c]; rfl
      · simp [le_iff, c]; rfl
    rw [hm, hm, h.cn]
    simp only [Option.bind_some]
    by_cases c1 : totD (cD M) < 2 * blw (cD M) A B C n <;> by_cases c2 : totD (cD M) < 2 * abv (cD M) A B C n <;> simp [c1, c2, bI]
  · rintro f v s hv rfl
    refine ⟨_, ?_, rfl⟩
    show fX2_isHalving_9 M (fX2_isHalving_99 M) (f + 1) A B C (blw (cD M) A B C v) (abv (cD M) A B C v) (nI v) = _
    have hv15 := inb_nI (show v < 15 by omega) (by decide)
    obtain ⟨o1, o2, -⟩ := h.2.2.1 v hv
    obtain ⟨-, p2, p3⟩ := pv_i (D := cD M) hs o1 o2
    obtain ⟨-, -, ⟨c1, c2⟩⟩ := hs
    rw [fX2_isHalving_9, h.2.1.1, if_neg (nI_ge hv (by omega))]
    unfold fX2_isHalving_93
    simp only [hv15, if_true, ix_nI (show v < 2147483648 by omega), nx_eq, nI_s]
    show (if 0 ≤ pv (cD M) A B v - C then if pv (cD M) A B v - C ≤ 0 then _ else _ else _) = _
    have hd : (pv (cD M) A B v - C).toInt = (pv (cD M) A B v).toInt - C.toInt := fb_subI (by omega) (by omega)
    have z : (0 : Int32).toInt = 0 := rfl
    have i1 : (0 ≤ pv (cD M) A B v - C) ↔ ¬ pv (cD M) A B v < C := by rw [fa_le, fa_lt, hd]; omega
    have i2 : (pv (cD M) A B v - C ≤ 0) ↔ ¬ C < pv (cD M) A B v := by rw [fa_le, fa_lt, hd]; omega
    simp only [i1, i2]
    unfold blw abv
    simp only [smm_s]
    by_cases e1 : pv (cD M) A B v < C
    · have e2 : ¬ C < pv (cD M) A B v := by rw [fa_lt] at e1 ⊢; omega
      simp only [e1, e2, not_true_eq_false, if_false, if_true, Int32.add_zero]
      rfl
    · by_cases e2 : C < pv (cD M) A B v
      · simp only [e1, e2, not_true_eq_false, not_false_eq_true, if_false, if_true, Int32.add_zero]
        rfl
      · simp only [e1, e2, not_false_eq_true, if_false, if_true, Int32.add_zero]
  · rintro f s rfl
    show fX2_isHalving_9 M (fX2_isHalving_99 M) (f + 1) A B C _ _ (nI n) = _
    rw [fX2_isHalving_9, h.2.1.1, if_pos (nI_le (Nat.le_refl _) (by omega))]
theorem e_halves {M : Mem} {n p : Nat} (h : DI M n p) (A B C : Int32) : fX11_halves M A B C = some (bI (hvD (cD M) A B C)) := by
  have hn := h.n15
  have hD := h.2.2.2.2.1
  unfold fX11_halves
  have hh := for_ex (σ := Int32 × Int32) (fun f v s => fX11_halves_9 M (fX11_halves_97 M) f A B C s.1 s.2 v) (fun s => fX11_halves_97 M s.1 s.2) n
    (fun i s => s = (abv (cD M) A B C i, blw (cD M) A B C i)) ?_ ?_ (0, 0) rfl FU (FU_gt (by omega))
  · obtain ⟨s, h1, h2⟩ := hh
    rw [h2] at h1
    refine Eq.trans h1 ?_
    show fX11_halves_97 M (abv (cD M) A B C n) (blw (cD M) A B C n) = _
    unfold fX11_halves_97 fX11_halves_123 fX11_halves_124 hvD
    rw [e_total M h.2.1.2.2.1 hn, ← hD.tot, h.cn]
    simp only [Option.bind_some]
    by_cases c1 : totD (cD M) < 2 * blw (cD M) A B C n <;> by_cases c2 : totD (cD M) < 2 * abv (cD M) A B C n <;> simp [c1, c2, bI]
  · rintro f v s hv rfl
    refine ⟨_, ?_, rfl⟩
    show fX11_halves_9 M (fX11_halves_97 M) (f + 1) A B C (abv (cD M) A B C v) (blw (cD M) A B C v) (nI v) = _
    have hv15 := inb_nI (show v < 15 by omega) (by decide)
    obtain ⟨d1, d2, d3, -⟩ := hD.2 v (by rw [h.cn]; exact hv)
    have d1 : M.1 2 v = M.1 50 v := d1
    have d2 : M.1 3 v = M.1 53 v := d2
    have d3 : M.1 4 v = M.1 56 v := d3
    have ep : A * M.1 50 v + B * M.1 53 v = pv (cD M) A B v := by rw [← d1, ← d2]; rfl
    rw [fX11_halves_9, e_voters, Option.bind_some, h.2.1.2.2.1, if_neg (nI_ge hv (by omega))]
    unfold fX11_halves_64 fX11_halves_88
    simp only [hv15, if_true, ix_nI (show v < 2147483648 by omega), nx_eq, nI_s, ep, ← d3]
    have i1 : (pv (cD M) A B v ≤ C) ↔ ¬ C < pv (cD M) A B v := by rw [fa_le, fa_lt]; omega
    have i2 : (C ≤ pv (cD M) A B v) ↔ ¬ pv (cD M) A B v < C := by rw [fa_le, fa_lt]; omega
    simp only [i1, i2]
    unfold blw abv
    simp only [smm_s]
    have e4 : (cD M).2.2.2.1 v = M.1 4 v := rfl
    by_cases e1 : pv (cD M) A B v < C <;> by_cases e2 : C < pv (cD M) A B v <;> simp [e1, e2, e4]
  · rintro f s rfl
    show fX11_halves_9 M (fX11_halves_97 M) (f + 1) A B C _ _ (nI n) = _
    rw [fX11_halves_9, e_voters, Option.bind_some, h.2.1.2.2.1, if_pos (nI_le (Nat.le_refl _) (by omega))]
