/-! lines in turning order, as whole numbers -/
abbrev Ln : Type := Int × Int × Int
def lnOk (l : Ln) : Prop := ((0 < l.1) ∨ (l.1 = 0 ∧ 0 < l.2.1)) ∧ Nat.gcd l.1.natAbs l.2.1.natAbs = 1
def lnLt (l m : Ln) : Prop := (l.1 ≠ 0 ∧ m.1 = 0) ∨ (l.1 = 0 ∧ m.1 = 0 ∧ l.2.2 < m.2.2) ∨ (l.1 ≠ 0 ∧ m.1 ≠ 0 ∧ (l.2.1 * m.1 < m.2.1 * l.1 ∨ (l.2.1 * m.1 = m.2.1 * l.1 ∧ l.2.2 < m.2.2)))
theorem ln_b1 {l : Ln} (h : lnOk l) (h0 : l.1 = 0) : l.2.1 = 1 := by
  obtain ⟨h1, h2⟩ := h
  rw [h0] at h2
  have h3 : Nat.gcd 0 l.2.1.natAbs = 1 := h2
  rw [Nat.gcd_zero_left] at h3
  omega
/-- same direction, same a and b -/
theorem ln_dir {l m : Ln} (hl : lnOk l) (hm : lnOk m) (l0 : l.1 ≠ 0) (m0 : m.1 ≠ 0) (h : l.2.1 * m.1 = m.2.1 * l.1) : l.1 = m.1 ∧ l.2.1 = m.2.1 := by
  have lp : 0 < l.1 := by have := hl.1; omega
  have mp : 0 < m.1 := by have := hm.1; omega
  have hn : l.2.1.natAbs * m.1.natAbs = m.2.1.natAbs * l.1.natAbs := by
    rw [← Int.natAbs_mul, ← Int.natAbs_mul, h]
  have d1 : l.1.natAbs ∣ m.1.natAbs := by
    have : l.1.natAbs ∣ l.2.1.natAbs * m.1.natAbs := ⟨m.2.1.natAbs, by rw [hn, Nat.mul_comm]⟩
    exact Nat.Coprime.dvd_of_dvd_mul_left hl.2 this
  have d2 : m.1.natAbs ∣ l.1.natAbs := by
    have : m.1.natAbs ∣ m.2.1.natAbs * l.1.natAbs := ⟨l.2.1.natAbs, by rw [← hn, Nat.mul_comm]⟩
    exact Nat.Coprime.dvd_of_dvd_mul_left hm.2 this
  have e : l.1.natAbs = m.1.natAbs := Nat.dvd_antisymm d1 d2
  have e1 : l.1 = m.1 := by omega
  refine ⟨e1, ?_⟩
  rw [← e1] at h
  exact Int.eq_of_mul_eq_mul_right (by omega) h
theorem ln_irr (l : Ln) : ¬ lnLt l l := by
  unfold lnLt
  omega
theorem mul_lt_tr {a b c d e f : Int} (ha : 0 < a) (hc : 0 < c) (he : 0 < e) (h1 : b * c < d * a) (h2 : d * e ≤ f * c) : b * e < f * a := by
  have k1 : b * c * e < d * a * e := Int.mul_lt_mul_of_pos_right h1 he
  have k2 : d * e * a ≤ f * c * a := Int.mul_le_mul_of_nonneg_right h2 (by omega)
  have k3 : (b * e) * c < (f * a) * c := by
    have e1 : b * c * e = (b * e) * c := by rw [Int.mul_assoc, Int.mul_comm c e, ← Int.mul_assoc]
    have e2 : d * a * e = d * e * a := by rw [Int.mul_assoc, Int.mul_comm a e, ← Int.mul_assoc]
    have e3 : f * c * a = (f * a) * c := by rw [Int.mul_assoc, Int.mul_comm c a, ← Int.mul_assoc]
    rw [e1, e2] at k1
    rw [e3] at k2
    omega
  exact Int.lt_of_mul_lt_mul_right k3 (by omega)
theorem mul_le_tr {a b c d e f : Int} (ha : 0 < a) (hc : 0 < c) (he : 0 < e) (h1 : b * c ≤ d * a) (h2 : d * e < f * c) : b * e < f * a := by
  have k1 : b * c * e ≤ d * a * e := Int.mul_le_mul_of_nonneg_right h1 (by omega)
  have k2 : d * e * a < f * c * a := Int.mul_lt_mul_of_pos_right h2 ha
  have k3 : (b * e) * c < (f * a) * c := by
    have e1 : b * c * e = (b * e) * c := by rw [Int.mul_assoc, Int.mul_comm c e, ← Int.mul_assoc]
    have e2 : d * a * e = d * e * a := by rw [Int.mul_assoc, Int.mul_comm a e, ← Int.mul_assoc]
    have e3 : f * c * a = (f * a) * c := by rw [Int.mul_assoc, Int.mul_comm c a, ← Int.mul_assoc]
    rw [e1, e2] at k1
    rw [e3] at k2
    omega
  exact Int.lt_of_mul_lt_mul_right k3 (by omega)
theorem ln_tr {l m r : Ln} (hl : lnOk l) (hm : lnOk m) (hr : lnOk r) (h1 : lnLt l m) (h2 : lnLt m r) : lnLt l r := by
  unfold lnLt at h1 h2 ⊢
  have pl := hl.1
  have pm := hm.1
  have pr := hr.1
  rcases h1 with ⟨a1, a2⟩ | ⟨a1, a2, a3⟩ | ⟨a1, a2, a3⟩
  · rcases h2 with ⟨b1, b2⟩ | ⟨b1, b2, b3⟩ | ⟨b1, b2, b3⟩
    · omega
    · exact Or.inl ⟨a1, b2⟩
    · omega
  · rcases h2 with ⟨b1, b2⟩ | ⟨b1, b2, b3⟩ | ⟨b1, b2, b3⟩
    · omega
    · exact Or.inr (Or.inl ⟨a1, b2, by omega⟩)
    · omega
  · rcases h2 with ⟨b1, b2⟩ | ⟨b1, b2, b3⟩ | ⟨b1, b2, b3⟩
    · exact Or.inl ⟨a1, b2⟩
    · omega
    · refine Or.inr (Or.inr ⟨a1, b2, ?_⟩)
      have xl : 0 < l.1 := by omega
      have xm : 0 < m.1 := by omega
      have xr : 0 < r.1 := by omega
      rcases a3 with a3 | ⟨a3, a4⟩
      · left
        refine mul_lt_tr xl xm xr a3 ?_
        rcases b3 with b3 | ⟨b3, -⟩ <;> omega
      · rcases b3 with b3 | ⟨b3, b4⟩
        · left
          exact mul_le_tr xl xm xr (by omega) b3
        · right
          obtain ⟨e1, e2⟩ := ln_dir hl hm a1 a2 a3
          rw [e1, e2]
          exact ⟨b3, by omega⟩
theorem ln_tri {l m : Ln} (hl : lnOk l) (hm : lnOk m) : lnLt l m ∨ l = m ∨ lnLt m l := by
  by_cases h1 : l.1 = 0
  · by_cases h2 : m.1 = 0
    · have b1 := ln_b1 hl h1
      have b2 := ln_b1 hm h2
      by_cases c : l.2.2 < m.2.2
      · exact Or.inl (Or.inr (Or.inl ⟨h1, h2, c⟩))
      · by_cases c2 : m.2.2 < l.2.2
        · exact Or.inr (Or.inr (Or.inr (Or.inl ⟨h2, h1, c2⟩)))
        · refine Or.inr (Or.inl ?_)
          apply Prod.ext
          · omega
          · apply Prod.ext
            · omega
            · omega
    · exact Or.inr (Or.inr (Or.inl ⟨h2, h1⟩))
  · by_cases h2 : m.1 = 0
    · exact Or.inl (Or.inl ⟨h1, h2⟩)
    · by_cases c : l.2.1 * m.1 < m.2.1 * l.1
      · exact Or.inl (Or.inr (Or.inr ⟨h1, h2, Or.inl c⟩))
      · by_cases c2 : m.2.1 * l.1 < l.2.1 * m.1
        · exact Or.inr (Or.inr (Or.inr (Or.inr ⟨h2, h1, Or.inl c2⟩)))
        · have e : l.2.1 * m.1 = m.2.1 * l.1 := by omega
          obtain ⟨e1, e2⟩ := ln_dir hl hm h1 h2 e
          by_cases d : l.2.2 < m.2.2
          · exact Or.inl (Or.inr (Or.inr ⟨h1, h2, Or.inr ⟨e, d⟩⟩))
          · by_cases d2 : m.2.2 < l.2.2
            · exact Or.inr (Or.inr (Or.inr (Or.inr ⟨h2, h1, Or.inr ⟨e.symm, d2⟩⟩)))
            · refine Or.inr (Or.inl ?_)
              apply Prod.ext
              · exact e1
              · apply Prod.ext
                · exact e2
                · omega
theorem ln_as {l m : Ln} (hl : lnOk l) (hm : lnOk m) (h : lnLt l m) : ¬ lnLt m l := fun q => ln_irr l (ln_tr hl hm hl h q)
