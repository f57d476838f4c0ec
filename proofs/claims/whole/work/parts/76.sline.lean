/-! line, middle, proof -/
def rgLM : Rg := [(26, 26, some 4), (26, 26, some 5), (27, 29, none), (30, 30, some 5), (30, 30, some 7), (31, 34, none), (47, 47, some 27), (47, 47, some 28), (47, 47, some 29), (79, 84, none)]
def st1 (M M1 : Mem) (k j : Nat) : Prop := M1.1 k j = M.1 k j ∨ M1.1 k j = M.1 1 14
def LB (M : Mem) : Prop := LK M ∧ MK M ∧ KR M
/-- the class looks its lines up -/
theorem k_lb {M : Mem} {n p : Nat} (h : DI M n p) (hb : LB M) : ∃ M1, fX2_refresh M = some M1 ∧ LC M1 ∧ LB M1 ∧ M1.1 26 5 = M.1 1 14 ∧ sm [(26, 26, some 4), (26, 26, some 5), (27, 29, none)] M M1 := by
  obtain ⟨hl, hm, hk⟩ := hb
  obtain ⟨M1, q1, q2, q3, q4, q5⟩ := k_lrefresh h hl
  refine ⟨M1, q1, q2, ⟨fun _ => q2, fun w => ?_, KR_on (q4.on _ (by decide) (by decide)) hk⟩, q3, q4⟩
  have o := q4.on [(1, 1, none), (30, 30, none)] (by decide) (by decide)
  rw [o.i 30 7 rfl, o.i 1 14 rfl] at w
  have e := q5 (hm w).1
  rw [e]
  exact hm w
theorem k_mb {M : Mem} {n p : Nat} (h : DI M n p) (hb : LB M) : ∃ M1, fX4_refresh M = some M1 ∧ MC M1 ∧ LB M1 ∧ M1.1 26 5 = M.1 1 14 ∧ M1.1 30 7 = M.1 1 14 ∧ sm [(26, 26, some 4), (26, 26, some 5), (27, 29, none), (30, 30, some 5), (30, 30, some 7), (31, 34, none)] M M1 := by
  obtain ⟨hl, hm, hk⟩ := hb
  obtain ⟨M1, q1, q2, q3, q4, q5, q6⟩ := k_mrefresh h hl hm
  have o := q6.on [(1, 1, none)] (by decide) (by decide)
  refine ⟨M1, q1, q2, ⟨fun _ => q3, fun _ => ⟨by rw [q5, o.i 1 14 rfl], q2⟩, KR_on (q6.on _ (by decide) (by decide)) hk⟩, q5, q4, q6⟩
/-- the reference does -/
theorem e_lb {M : Mem} {n p : Nat} (h : DI M n p) (hb : LB M) : ∃ M1, fX11_knows M = some M1 ∧ LR M1 ∧ MR M1 ∧ LB M1 ∧ sm rgKn M M1 := by
  obtain ⟨hl, hm, hk⟩ := hb
  obtain ⟨M1, q1, q2, q3, q4, q5⟩ := e_knows h hk
  exact ⟨M1, q1, q2, q3, ⟨LK_on (q5.on _ (by decide) (by decide)) hl, MK_on (q5.on _ (by decide) (by decide)) hm, q4⟩, q5⟩
/-- a range test as both objects do it -/
theorem e_inR (M : Mem) (a : Int32) {s : Nat} (hs : s ≤ 300) : fX11_in M a.toInt64 0 ((nI s - 1).toInt64) = some (bI (inN a s)) := by
  rw [e_in]
  congr 1
  have t1 : (nI s - 1).toInt = (s : Int) - 1 := by
    have z : (1 : Int32).toInt = 1 := rfl
    rw [fb_subI (by rw [nI_toInt (by omega), z]; omega) (by rw [nI_toInt (by omega), z]; omega), nI_toInt (by omega), z]
  have z64 : (0 : Int64).toInt = 0 := rfl
  congr 1
  unfold inN
  simp only [fa_le64, Int32.toInt_toInt64, t1, z64]
  by_cases c1 : 0 ≤ a.toInt <;> by_cases c2 : a.toInt < s
  · simp [c1, c2]; omega
  · simp [c1, c2]; omega
  · simp [c1, c2]
  · simp [c1, c2]
theorem s_line {M : Mem} {n p : Nat} (h : DI M n p) (hb : LB M) (a b : Int32) : ∃ r M1 M2, fX10_line a b M = some (r, M1) ∧ fX11_line a b M1 = some (r, M2) ∧ sm rgLM M M2 ∧ LB M2 ∧ st1 M M2 26 5 ∧ st1 M M2 30 7 := by
  obtain ⟨M1, q1, q2, q3, q4, q5⟩ := k_lb h hb
  have h1 : DI M1 n p := DI_on (q5.on _ (by decide) (by decide)) h
  obtain ⟨M2, t1, t2, t3, t4, t5⟩ := e_lb h1 q3
  have lc2 : LC M2 := LC_on (t5.on _ (by decide) (by decide)) q2
  obtain ⟨s, s1, s2, s3, s4⟩ := lines_eq lc2 t2
  have o := t5.on [(26, 30, none)] (by decide) (by decide)
  have n26 : M1.1 26 4 = nI s := by rw [← o.i 26 4 rfl]; exact s2.1
  have fin : ∀ r, fX10_line a b M = some (r, M1) → fX11_line a b M1 = some (r, M2) → ∃ r M1 M2, fX10_line a b M = some (r, M1) ∧ fX11_line a b M1 = some (r, M2) ∧ sm rgLM M M2 ∧ LB M2 ∧ st1 M M2 26 5 ∧ st1 M M2 30 7 := by
    intro r r1 r2
    refine ⟨r, M1, M2, r1, r2, (q5.up (by decide)).tr (t5.up (by decide)), t4, Or.inr ?_, Or.inl ?_⟩
    · rw [o.i 26 5 rfl, q4]
    · rw [o.i 30 7 rfl, (q5.on [(30, 30, none)] (by decide) (by decide)).i 30 7 rfl]
  have u1 : fX10_line a b M = if a = -1 then some (nI s, M1) else if inN a s = true then (if b = 0 then some (M1.1 27 (ix a), M1) else if b = 1 then some (M1.1 28 (ix a), M1) else if b = 2 then some (M1.1 29 (ix a), M1) else some (-2147483648, M1)) else some (-2147483648, M1) := by
    unfold fX10_line fX10_line_35
    rw [q1, Option.bind_some, n26]
    by_cases c1 : a = -1
    · rw [if_pos c1, if_pos c1]
    · rw [if_neg c1, if_neg c1]
      have z : (0 : Int32).toInt = 0 := rfl
      cases hi : inN a s with
      | true =>
        obtain ⟨j, hj, rfl⟩ := inN_of hi (by omega)
        have i105 := inb_nI (show j < 105 by omega) (by decide)
        rw [if_neg (show ¬ nI j < 0 by rw [fa_lt, nI_toInt (by omega), z]; omega), if_pos (show nI j < nI s by rw [fa_lt, nI_toInt (by omega), nI_toInt (by omega)]; omega), if_pos rfl]
        simp only [i105, if_true]
      | false =>
        simp only [inN, Bool.and_eq_false_iff, decide_eq_false_iff_not] at hi
        by_cases c2 : a < 0
        · rw [if_pos c2]; rfl
        · rw [if_neg c2]
          have c3 : ¬ a < nI s := by
            rw [fa_lt, nI_toInt (by omega)]
            rw [fa_lt, z] at c2
            omega
          rw [if_neg c3]; rfl
  have u2 : fX11_line a b M1 = if a = -1 then some (nI s, M2) else if inN a s = true then (if b = 0 then some (M2.1 79 (ix a), M2) else if b = 1 then some (M2.1 80 (ix a), M2) else if b = 2 then some (M2.1 81 (ix a), M2) else some (-2147483648, M2)) else some (-2147483648, M2) := by
    unfold fX11_line
    rw [t1, Option.bind_some, s3, e_inR M2 a (by omega), Option.bind_some]
    by_cases c1 : a = -1
    · rw [if_pos c1, if_pos c1]
    · rw [if_neg c1, if_neg c1]
      cases hi : inN a s with
      | true =>
        obtain ⟨j, hj, rfl⟩ := inN_of hi (by omega)
        have i105 := inb_nI (show j < 105 by omega) (by decide)
        rw [if_neg (by decide), if_pos rfl]
        simp only [i105, if_true]
      | false => rfl
  by_cases c1 : a = -1
  · rw [if_pos c1] at u1 u2
    exact fin _ u1 u2
  · rw [if_neg c1] at u1 u2
    cases hi : inN a s with
    | false =>
      rw [hi] at u1 u2
      exact fin _ u1 u2
    | true =>
      rw [hi, if_pos rfl] at u1 u2
      obtain ⟨j, hj, rfl⟩ := inN_of hi (by omega)
      obtain ⟨g1, g2, g3⟩ := s4 j hj
      rw [ix_nI (show j < 2147483648 by omega)] at u1 u2
      rw [g1, g2, g3, o.i 27 j rfl, o.i 28 j rfl, o.i 29 j rfl] at u2
      by_cases b0 : b = 0
      · rw [if_pos b0] at u1 u2; exact fin _ u1 u2
      · rw [if_neg b0] at u1 u2
        by_cases b1 : b = 1
        · rw [if_pos b1] at u1 u2; exact fin _ u1 u2
        · rw [if_neg b1] at u1 u2
          by_cases b2 : b = 2
          · rw [if_pos b2] at u1 u2; exact fin _ u1 u2
          · rw [if_neg b2] at u1 u2; exact fin _ u1 u2
/-- both rows of places are one -/
theorem mids_eq {M : Mem} (hc : MC M) (hr : MR M) : ∃ r s, r ≤ 105 ∧ s ≤ 2 ∧ LnK M r (lnS (cD M) (cD M).1 0) ∧ pfC M r s ∧ M.1 30 5 = nI s ∧ M.1 47 28 = nI s ∧ ∀ i, i < s → M.2 82 i = M.2 31 i ∧ M.2 83 i = M.2 32 i ∧ M.2 84 i = M.2 33 i := by
  obtain ⟨r, s, r1, s1, k1, k2, k3⟩ := hc
  obtain ⟨t, t1, t2⟩ := hr
  obtain ⟨e, q⟩ := SR.one pl_irr (fun a b c => pl_tr) k2.2.2 t2.2.2
  subst e
  refine ⟨r, s, r1, s1, k1, k3, k2.1, t2.1, fun i hi => ?_⟩
  have := q i hi
  unfold ro roR at this
  rw [plOf_inj] at this
  exact ⟨this.1.symm, this.2.1.symm, this.2.2.symm⟩
theorem s_middle {M : Mem} {n p : Nat} (h : DI M n p) (hb : LB M) (a b : Int32) : ∃ r M1 M2, fX10_middle a b M = some (r, M1) ∧ fX11_middle a b M1 = some (r, M2) ∧ sm rgLM M M2 ∧ LB M2 ∧ st1 M M2 26 5 ∧ st1 M M2 30 7 := by
  obtain ⟨M1, q1, q2, q3, q4, q5, q6⟩ := k_mb h hb
  have h1 : DI M1 n p := DI_on (q6.on _ (by decide) (by decide)) h
  obtain ⟨M2, t1, t2, t3, t4, t5⟩ := e_lb h1 q3
  have mc2 : MC M2 := MC_on (t5.on _ (by decide) (by decide)) q2
  obtain ⟨r, s, r1, s1, -, -, s2, s3, s4⟩ := mids_eq mc2 t3
  have o := t5.on [(26, 34, none)] (by decide) (by decide)
  have n30 : M1.1 30 5 = nI s := by rw [← o.i 30 5 rfl]; exact s2
  have fin : ∀ r, fX10_middle a b M = some (r, M1) → fX11_middle a b M1 = some (r, M2) → ∃ r M1 M2, fX10_middle a b M = some (r, M1) ∧ fX11_middle a b M1 = some (r, M2) ∧ sm rgLM M M2 ∧ LB M2 ∧ st1 M M2 26 5 ∧ st1 M M2 30 7 := by
    intro r r1 r2
    refine ⟨r, M1, M2, r1, r2, (q6.up (by decide)).tr (t5.up (by decide)), t4, Or.inr ?_, Or.inr ?_⟩
    · rw [o.i 26 5 rfl, q4]
    · rw [o.i 30 7 rfl, q5]
  have u1 : fX10_middle a b M = if a = -1 then some (nI s, M1) else if inN a s = true then (if b = 0 then some ((M1.2 31 (ix a)).toInt32, M1) else if b = 1 then some ((M1.2 32 (ix a)).toInt32, M1) else if b = 2 then some ((M1.2 33 (ix a)).toInt32, M1) else some (-2147483648, M1)) else some (-2147483648, M1) := by
    unfold fX10_middle fX10_middle_35
    rw [q1, Option.bind_some, n30]
    by_cases c1 : a = -1
    · rw [if_pos c1, if_pos c1]
    · rw [if_neg c1, if_neg c1]
      have z : (0 : Int32).toInt = 0 := rfl
      cases hi : inN a s with
      | true =>
        obtain ⟨j, hj, rfl⟩ := inN_of hi (by omega)
        have i105 := inb_nI (show j < 15 by omega) (by decide)
        rw [if_neg (show ¬ nI j < 0 by rw [fa_lt, nI_toInt (by omega), z]; omega), if_pos (show nI j < nI s by rw [fa_lt, nI_toInt (by omega), nI_toInt (by omega)]; omega), if_pos rfl]
        simp only [i105, if_true]
      | false =>
        simp only [inN, Bool.and_eq_false_iff, decide_eq_false_iff_not] at hi
        by_cases c2 : a < 0
        · rw [if_pos c2]; rfl
        · rw [if_neg c2]
          have c3 : ¬ a < nI s := by
            rw [fa_lt, nI_toInt (by omega)]
            rw [fa_lt, z] at c2
            omega
          rw [if_neg c3]; rfl
  have u2 : fX11_middle a b M1 = if a = -1 then some (nI s, M2) else if inN a s = true then (if b = 0 then some ((M2.2 82 (ix a)).toInt32, M2) else if b = 1 then some ((M2.2 83 (ix a)).toInt32, M2) else if b = 2 then some ((M2.2 84 (ix a)).toInt32, M2) else some (-2147483648, M2)) else some (-2147483648, M2) := by
    unfold fX11_middle
    rw [t1, Option.bind_some, s3, e_inR M2 a (by omega), Option.bind_some]
    by_cases c1 : a = -1
    · rw [if_pos c1, if_pos c1]
    · rw [if_neg c1, if_neg c1]
      cases hi : inN a s with
      | true =>
        obtain ⟨j, hj, rfl⟩ := inN_of hi (by omega)
        have i105 := inb_nI (show j < 5600 by omega) (by decide)
        rw [if_neg (by decide), if_pos rfl]
        simp only [i105, if_true]
      | false => rfl
  by_cases c1 : a = -1
  · rw [if_pos c1] at u1 u2
    exact fin _ u1 u2
  · rw [if_neg c1] at u1 u2
    cases hi : inN a s with
    | false =>
      rw [hi] at u1 u2
      exact fin _ u1 u2
    | true =>
      rw [hi, if_pos rfl] at u1 u2
      obtain ⟨j, hj, rfl⟩ := inN_of hi (by omega)
      obtain ⟨g1, g2, g3⟩ := s4 j hj
      rw [ix_nI (show j < 2147483648 by omega)] at u1 u2
      rw [g1, g2, g3, o.l 31 j rfl, o.l 32 j rfl, o.l 33 j rfl] at u2
      by_cases b0 : b = 0
      · rw [if_pos b0] at u1 u2; exact fin _ u1 u2
      · rw [if_neg b0] at u1 u2
        by_cases b1 : b = 1
        · rw [if_pos b1] at u1 u2; exact fin _ u1 u2
        · rw [if_neg b1] at u1 u2
          by_cases b2 : b = 2
          · rw [if_pos b2] at u1 u2; exact fin _ u1 u2
          · rw [if_neg b2] at u1 u2; exact fin _ u1 u2
theorem s_proof {M : Mem} {n p : Nat} (h : DI M n p) (hb : LB M) (a : Int32) : ∃ r M1 M2, fX10_proof a M = some (r, M1) ∧ fX11_proof a M1 = some (r, M2) ∧ sm rgLM M M2 ∧ LB M2 ∧ st1 M M2 26 5 ∧ st1 M M2 30 7 := by
  have z : (0 : Int32).toInt = 0 := rfl
  have two : (2 : Int32).toInt = 2 := rfl
  have z64 : (0 : Int64).toInt = 0 := rfl
  have t64 : (2 : Int64).toInt = 2 := rfl
  have hin : ∀ M : Mem, fX11_in M a.toInt64 0 2 = some (bI (inN a 3)) := by
    intro M
    rw [e_in]
    congr 1
    congr 1
    unfold inN
    simp only [fa_le64, Int32.toInt_toInt64, z64, t64]
    by_cases c1 : 0 ≤ a.toInt <;> by_cases c2 : a.toInt < 3
    · simp [c1, c2]; omega
    · simp [c1, c2]; omega
    · simp [c1, c2]
    · simp [c1, c2]
  cases hi : inN a 3 with
  | false =>
    refine ⟨-1, M, M, ?_, ?_, sm_rf, hb, Or.inl rfl, Or.inl rfl⟩
    · simp only [inN, Bool.and_eq_false_iff, decide_eq_false_iff_not] at hi
      unfold fX10_proof fX10_proof_9
      by_cases c2 : a < 0
      · rw [if_pos c2]
      · rw [if_neg c2]
        have c3 : ¬ a ≤ 2 := by
          rw [fa_le, two]
          rw [fa_lt, z] at c2
          omega
        rw [if_neg c3]
    · unfold fX11_proof
      rw [hin, hi]
      rfl
  | true =>
    obtain ⟨j, hj, rfl⟩ := inN_of hi (by decide)
    obtain ⟨M1, q1, q2, q3, q4, q5, q6⟩ := k_mb h hb
    have h1 : DI M1 n p := DI_on (q6.on _ (by decide) (by decide)) h
    obtain ⟨M2, t1, t2, t3, t4, t5⟩ := e_lb h1 q3
    have mc2 : MC M2 := MC_on (t5.on _ (by decide) (by decide)) q2
    obtain ⟨r, s, r1, s1, ln, pf, s2, s3, s4⟩ := mids_eq mc2 t3
    obtain ⟨r', r1', ln', n27, req⟩ := lines_eq ⟨r, r1, ln⟩ t2
    have er : r' = r := (SR.one ln_irr (fun a b c => ln_tr) ln'.2.2 ln.2.2).1
    subst er
    have o := t5.on [(26, 34, none)] (by decide) (by decide)
    have i3 := inb_nI hj (by decide)
    have u1 : fX10_proof (nI j) M = some (M2.1 34 j, M1) := by
      unfold fX10_proof
      rw [if_neg (show ¬ nI j < 0 by rw [fa_lt, nI_toInt (by omega), z]; omega), if_pos (show nI j ≤ 2 by rw [fa_le, nI_toInt (by omega), two]; omega), q1, Option.bind_some]
      simp only [i3, if_true, ix_nI (show j < 2147483648 by omega)]
      rw [o.i 34 j rfl]
    have u2 : fX11_proof (nI j) M1 = some (M2.1 34 j, M2) := by
      unfold fX11_proof
      rw [hin, hi, Option.bind_some, if_neg (by decide), t1, Option.bind_some, s3]
      rcases pf with ⟨p1, p2⟩ | ⟨p1, p2, p3⟩ | ⟨p1, k, l, m, p2, p3, p4, p5⟩
      · rw [if_neg (show ¬ nI s ≤ 0 by rw [fa_le, nI_toInt (by omega), z]; omega), p2 j hj]
      · rw [if_pos (show nI s ≤ 0 by rw [fa_le, nI_toInt (by omega), z]; omega), p3 j hj]
        rcases e_proof29 (M := M2) r1' n27 (nI j) with ⟨w1, w2⟩ | ⟨k, l, m, w1, w2⟩
        · exact w2
        · exact absurd (P3_cg (fun i hi => by obtain ⟨g1, g2, g3⟩ := req i hi; unfold rw3R rw3; rw [g1, g2, g3]) w1.1) (p2 k l m)
      · rw [if_pos (show nI s ≤ 0 by rw [fa_le, nI_toInt (by omega), z]; omega)]
        rcases e_proof29 (M := M2) r1' n27 (nI j) with ⟨w1, w2⟩ | ⟨a, b, c, w1, w2⟩
        · exact absurd (P3_cg (fun i hi => by obtain ⟨g1, g2, g3⟩ := req i hi; unfold rw3R rw3; rw [g1, g2, g3]) p2.1) (w1 k l m)
        · obtain ⟨rfl, rfl, rfl⟩ := F3_one p2 w1 (fun i hi => by obtain ⟨g1, g2, g3⟩ := req i hi; unfold rw3R rw3; rw [g1, g2, g3])
          rw [w2]
          unfold fX11_proof_74 fX11_proof_93
          have : j = 0 ∨ j = 1 ∨ j = 2 := by omega
          rcases this with rfl | rfl | rfl
          · rw [if_pos (by decide), p3]
          · rw [if_neg (by decide), if_pos (by decide), p4]
          · rw [if_neg (by decide), if_neg (by decide), p5]
    refine ⟨_, M1, M2, u1, u2, (q6.up (by decide)).tr (t5.up (by decide)), t4, Or.inr ?_, Or.inr ?_⟩
    · rw [o.i 26 5 rfl, q4]
    · rw [o.i 30 7 rfl, q5]
