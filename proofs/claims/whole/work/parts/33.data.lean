/-! the data of both objects agree -/
def okV (M : Mem) (v : Nat) : Prop := inN (M.1 2 v) 100 = true ∧ inN (M.1 3 v) 100 = true ∧ (1 ≤ (M.1 4 v).toInt ∧ (M.1 4 v).toInt ≤ 9) ∧ inN (M.1 5 v) 4 = true ∧ (1 ≤ (M.1 6 v).toInt ∧ (M.1 6 v).toInt ≤ 9) ∧ (1 ≤ (M.1 7 v).toInt ∧ (M.1 7 v).toInt ≤ 9)
def DI (M : Mem) (n p : Nat) : Prop := (n ≤ 15 ∧ p ≤ 20 ∧ (n = 0 → p = 0)) ∧ (M.1 1 0 = nI n ∧ M.1 1 8 = nI p ∧ M.1 73 0 = nI n ∧ M.1 74 0 = nI p) ∧ (∀ v, v < n → okV M v) ∧ (∀ q, q < p → inN (M.1 8 q) 100 = true ∧ inN (M.1 9 q) 100 = true) ∧ eqD (cD M) (rD M) ∧ (∀ q, q < p → M.1 68 q = M.1 8 q ∧ M.1 71 q = M.1 9 q) ∧ (eqB (cB M) (rB M) ∧ okB (cB M) ∧ ((cB M).1 ≠ 0 → 1 ≤ (cB M).2.1.toInt ∧ (cB M).2.1.toInt ≤ 99)) ∧ M.1 1 7 = totD (cD M)
theorem DI.cn {M : Mem} {n p : Nat} (h : DI M n p) : (cD M).1 = n := by
  show ix (M.1 1 0) = n
  rw [h.2.1.1]
  exact ix_nI (by have := h.1.1; omega)
theorem DI.n15 {M : Mem} {n p : Nat} (h : DI M n p) : n ≤ 15 := h.1.1
theorem DI.p20 {M : Mem} {n p : Nat} (h : DI M n p) : p ≤ 20 := h.1.2.1
theorem s_voter {M : Mem} {n p : Nat} (h : DI M n p) (a b : Int32) : ∃ r, fX10_voter M a b = some r ∧ fX11_voter M a b = some r := by
  obtain ⟨⟨hn, hp, -⟩, ⟨h1, h2, h3, h4⟩, hv, hq, hD, -⟩ := id h
  unfold fX10_voter fX11_voter
  rw [k_hasVoter M a h1 hn, e_isVoter M a h3 hn]
  simp only [Option.bind_some]
  cases hi : inN a n with
  | false => exact ⟨-1, rfl, rfl⟩
  | true =>
    obtain ⟨j, hj, rfl⟩ := inN_of hi (by omega)
    obtain ⟨q1, q2, q3, q4, q5, q6⟩ := hD.2 j (by rw [h.cn]; exact hj)
    have q1 : M.1 2 j = M.1 50 j := q1
    have q2 : M.1 3 j = M.1 53 j := q2
    have q3 : M.1 4 j = M.1 56 j := q3
    have q4 : M.1 5 j = M.1 59 j := q4
    have q5 : M.1 6 j = M.1 62 j := q5
    have q6 : M.1 7 j = M.1 65 j := q6
    have e : ¬ bI true = 0 := by decide
    simp only [e, if_false, inb_nI (show j < 15 by omega) (by decide), if_true, ix_nI (show j < 2147483648 by omega), q1, q2, q3, q4, q5, q6]
    refine ⟨if b = 0 then M.1 50 j else if b = 1 then M.1 53 j else if b = 2 then M.1 56 j else if b = 3 then M.1 59 j else if b = 4 then M.1 62 j else if b = 5 then M.1 65 j else -1, ?_, ?_⟩ <;>
    · by_cases c0 : b = 0
      · simp [c0]
      · by_cases c1 : b = 1
        · simp [c1]
        · by_cases c2 : b = 2
          · simp [c2]
          · by_cases c3 : b = 3
            · simp [c3]
            · by_cases c4 : b = 4
              · simp [c4]
              · by_cases c5 : b = 5
                · simp [c5]
                · simp [c0, c1, c2, c3, c4, c5]
theorem s_place {M : Mem} {n p : Nat} (h : DI M n p) (a b : Int32) : ∃ r, fX10_place M a b = some r ∧ fX11_place M a b = some r := by
  obtain ⟨⟨hn, hp, -⟩, ⟨h1, h2, h3, h4⟩, hv, hq, hD, hP, -⟩ := id h
  unfold fX10_place fX11_place fX10_place_45 fX11_place_18 fX11_place_45
  rw [k_hasPlace M a h2 hp, e_isPlace M a h4 hp]
  simp only [Option.bind_some, e_in]
  cases hi : inN a p with
  | false => exact ⟨-1, rfl, rfl⟩
  | true =>
    obtain ⟨j, hj, rfl⟩ := inN_of hi (by omega)
    obtain ⟨q1, q2⟩ := hP j hj
    have e : ¬ bI true = 0 := by decide
    rw [inN_lit b (k := 1) (by decide)]
    simp only [e, if_false, inb_nI (show j < 20 by omega) (by decide), if_true, ix_nI (show j < 2147483648 by omega), q1, q2]
    cases hb : inN b 2 with
    | false =>
      have c0 : ¬ b = 0 := fun q => by rw [q] at hb; exact absurd hb (by decide)
      have c1 : ¬ b = 1 := fun q => by rw [q] at hb; exact absurd hb (by decide)
      exact ⟨-1, by simp [c0, c1], by simp [bI]⟩
    | true =>
      obtain ⟨i, hi2, rfl⟩ := inN_of hb (by decide)
      have : i = 0 ∨ i = 1 := by omega
      rcases this with rfl | rfl
      · exact ⟨M.1 8 j, rfl, rfl⟩
      · exact ⟨M.1 9 j, rfl, rfl⟩
theorem s_way {M : Mem} {n p : Nat} (h : DI M n p) (a x y : Int32) : ∃ r, fX10_way M a x y = some r ∧ fX11_way M a x y = some r := by
  obtain ⟨⟨hn, hp, -⟩, ⟨h1, h2, h3, h4⟩, hv, hq, hD, -⟩ := id h
  unfold fX10_way fX11_way fX10_way_19 fX11_way_26 fX11_way_27
  rw [k_hasVoter M a h1 hn, e_isVoter M a h3 hn]
  simp only [Option.bind_some, k_isPoint, e_isPoint]
  cases hi : inN a n with
  | false => exact ⟨-1, rfl, rfl⟩
  | true =>
    obtain ⟨j, hj, rfl⟩ := inN_of hi (by omega)
    rw [k_wayTo M (show j < 15 by omega), e_wayOf M (show j < 15 by omega)]
    cases hb : isPt x y with
    | false => exact ⟨-1, rfl, rfl⟩
    | true =>
      refine ⟨wayT (cD M) j x y, rfl, ?_⟩
      rw [hD.way (by rw [h.cn]; exact hj)]
      rfl
theorem s_wins {M : Mem} {n p : Nat} (h : DI M n p) (a b : Int32) : ∃ r, fX10_wins M a b = some r ∧ fX11_wins M a b = some r := by
  obtain ⟨⟨hn, hp, -⟩, ⟨h1, h2, h3, h4⟩, hv, hq, hD, hP, ⟨hB, hB2, -⟩, hall⟩ := id h
  unfold fX10_wins fX11_wins fX10_wins_32 fX11_wins_31
  simp only [e_voters, Option.bind_some, h1, h3, e_in]
  rw [inN_lit a (k := 9999) (by decide), inN_lit b (k := 9999) (by decide)]
  by_cases hz : nI n = 0
  · exact ⟨0, by simp [hz], by simp [hz]⟩
  · simp only [hz, if_false]
    rw [k_weightFor M h1 hn, k_weightFor M h1 hn, e_beatsAt M h3 hn]
    simp only [Option.bind_some, k_isEnough M hB2, bI_and]
    rw [← eq_bt hD hB, hall]
    have ea := le_of_inN (x := a) (n := 10000) (by decide)
    have eb := le_of_inN (x := b) (n := 10000) (by decide)
    have e : nI 10000 = (10000 : Int32) := rfl
    rw [e] at ea eb
    rw [← ea, ← eb]
    have eB : wonD (cB M) (totD (cD M)) (forD (cD M) (a / 100) (irm a 100) (b / 100) (irm b 100)) (forD (cD M) (b / 100) (irm b 100) (a / 100) (irm a 100)) = btD (cD M) (cB M) (a / 100) (irm a 100) (b / 100) (irm b 100) := rfl
    rw [eB]
    by_cases a0 : a < 0
    · exact ⟨0, by simp [a0], by simp [a0, bI]⟩
    · by_cases a1 : (10000 : Int32) ≤ a
      · exact ⟨0, by simp [a0, a1], by simp [a0, a1, bI]⟩
      · by_cases b0 : b < 0
        · exact ⟨0, by simp [a0, a1, b0], by simp [a0, a1, b0, bI]⟩
        · by_cases b1 : (10000 : Int32) ≤ b
          · have b2 : ¬ b < 10000 := by rw [fa_lt]; have := (fa_le _ _).mp b1; omega
            exact ⟨0, by simp [a0, a1, b0, b2], by simp [a0, a1, b0, b1, bI]⟩
          · have b2 : b < 10000 := fa_of_nle b1
            exact ⟨bI (btD (cD M) (cB M) (a / 100) (irm a 100) (b / 100) (irm b 100)), by simp [a0, a1, b0, b2], by simp [a0, a1, b0, b1, show ¬ bI true = 0 by decide]⟩
