/-! winSet, piece, between, most -/
def rgFd : Rg := [(47, 47, some 37), (47, 47, some 38), (85, 86, none), (141, 146, none)]
theorem sm_mkF (M : Mem) : sm [(141, 146, none)] M (mkF M) := by
  intro k j hk hin
  have h141 : k < 141 := by
    by_cases c : k < 141
    · exact c
    · have : inS [(141, 146, none)] k j = true := by
        refine List.any_eq_true.mpr ⟨(141, 146, none), List.mem_singleton.mpr rfl, ?_⟩
        simp
        omega
      rw [this] at hin
      cases hin
  unfold mkF
  constructor
  · rw [sI_nk _ _ (by omega), sI_nk _ _ (by omega), sI_nk _ _ (by omega)]
    show (if 141 ≤ k then 0 else M.1 k j) = _
    rw [if_neg (by omega)]
  · show (if 141 ≤ k then 0 else M.2 k j) = _
    rw [if_neg (by omega)]
theorem FK_mkF (M : Mem) : FK (mkF M) := by
  intro a ha h9 _
  have : (mkF M).1 141 9 = -1 := by
    unfold mkF
    rw [sI_nj _ _ (by decide), sI_at]
  rw [this] at h9
  exact absurd h9.symm (nI_nn1 (by omega))
theorem ptA {x y : Int32} (h : isPt x y = true) : ∃ a, a < 10000 ∧ x = nI (a / 100) ∧ y = nI (a % 100) := by
  unfold isPt at h
  simp only [Bool.and_eq_true] at h
  obtain ⟨u, hu, rfl⟩ := inN_of h.1 (by decide)
  obtain ⟨w, hw, rfl⟩ := inN_of h.2 (by decide)
  refine ⟨u * 100 + w, by omega, ?_, ?_⟩
  · congr 1; omega
  · congr 1; omega
theorem in_01 (M : Mem) (x : Int32) : fX11_in M x.toInt64 0 1 = some (bI (inN x 2)) := by
  have z64 : (0 : Int64).toInt = 0 := rfl
  have t64 : (1 : Int64).toInt = 1 := rfl
  rw [e_in]
  congr 1
  congr 1
  unfold inN
  simp only [fa_le64, Int32.toInt_toInt64, z64, t64]
  by_cases c1 : 0 ≤ x.toInt <;> by_cases c2 : x.toInt < 2
  · simp [c1, c2]; omega
  · simp [c1, c2]; omega
  · simp [c1, c2]
  · simp [c1, c2]
theorem in_02 (M : Mem) (x : Int32) : fX11_in M x.toInt64 0 2 = some (bI (inN x 3)) := by
  have z64 : (0 : Int64).toInt = 0 := rfl
  have t64 : (2 : Int64).toInt = 2 := rfl
  rw [e_in]
  congr 1
  congr 1
  unfold inN
  simp only [fa_le64, Int32.toInt_toInt64, z64, t64]
  by_cases c1 : 0 ≤ x.toInt <;> by_cases c2 : x.toInt < 3
  · simp [c1, c2]; omega
  · simp [c1, c2]; omega
  · simp [c1, c2]
  · simp [c1, c2]
theorem n_0 {n : Nat} (hn : n ≤ 15) : nI n = 0 ↔ n = 0 := by
  rw [fa_eq, nI_toInt (by omega), show (0 : Int32).toInt = 0 from rfl]
  omega
/-- a Field that looks from a, in N -/
theorem c_winSet {N : Mem} {n p a : Nat} (h : DI N n p) (hf : FK N) (ha : a < 10000) (x : Int32) : ∃ r N1 N2, (fX1_lookFrom (nI (a / 100)) (nI (a % 100)) N).bind (fun q => if x = 0 then some (q.1 141 6, q) else (fX1_cutPieces q).bind (fun q2 => some (q2.1 141 8, q2))) = some (r, N1) ∧ (fX11_finds (nI (a / 100)) (nI (a % 100)) N1).bind (fun q => if x = 0 then fX11_winSet_48 (q.1 47 38) q else fX11_winSet_48 (q.1 47 37) q) = some (r, N2) ∧ DI N1 n p ∧ FK N2 ∧ N2.1 141 10 = N.1 1 14 ∧ sm rgFd N N2 := by
  obtain ⟨A, a1, a2, a3, a4, a5⟩ := k_look h hf ha
  rw [a1, Option.bind_some]
  have dA : DI A n p := DI_on (a5.on _ (by decide) (by decide)) h
  by_cases c : x = 0
  · obtain ⟨X, x1, x2, x3, x4, x5⟩ := e_findsP dA ha
    refine ⟨_, A, X, by rw [if_pos c], ?_, dA, FK_on (x5.on _ (by decide) (by decide)) (FK_of ha a3 a2), ?_, (a5.up (by decide)).tr (x5.up (by decide))⟩
    · rw [x1, Option.bind_some, if_pos c, x2, a2.1]
      rfl
    · rw [(x5.on [(141, 141, none)] (by decide) (by decide)).i 141 10 rfl]; exact a4
  · obtain ⟨B, b1, b2, b3, b4, b5⟩ := k_cutF ha a3 a2
    have dB : DI B n p := DI_on (b5.on _ (by decide) (by decide)) dA
    have e1 : cD B = cD A := cD_on (b5.on _ (by decide) (by decide))
    have e2 : cB B = cB A := cB_on (b5.on _ (by decide) (by decide))
    obtain ⟨X, x1, x2, x3, x4, x5⟩ := e_findsP dB ha
    refine ⟨_, B, X, by rw [if_neg c, b1, Option.bind_some], ?_, dB, FK_on (x5.on _ (by decide) (by decide)) b4, ?_, ((a5.up (by decide)).tr (b5.up (by decide))).tr (x5.up (by decide))⟩
    · rw [x1, Option.bind_some, if_neg c, x3, e1, e2, b2.1]
      rfl
    · rw [(x5.on [(141, 141, none)] (by decide) (by decide)).i 141 10 rfl, (b5.on [(141, 141, some 10)] (by decide) (by decide)).i 141 10 rfl]; exact a4
theorem s_winSet {M : Mem} {n p : Nat} (b : Bool) (h : DI M n p) (hf : b = true → FK M) (x y w : Int32) : (b = true ∧ ∃ r M1 M2, fX10_winSet_T x y w M = some (r, M1) ∧ fX11_winSet x y w M1 = some (r, M2) ∧ FK M2 ∧ sm rgFd M M2 ∧ st1 M M2 141 10) ∨ (b = false ∧ ∃ r M2, fX10_winSet_E M x y w = some r ∧ fX11_winSet x y w M = some (r, M2) ∧ sm rgFd M M2) ∨ (b = false ∧ ∃ r M1 M2, fX10_winSet_F x y w M = some (r, M1) ∧ fX11_winSet x y w M1 = some (r, M2) ∧ FK M2 ∧ sm rgFd M M2 ∧ M2.1 141 10 = M.1 1 14) := by
  have hn := h.n15
  have z : (0 : Int32).toInt = 0 := rfl
  have one : (1 : Int32).toInt = 1 := rfl
  -- where nothing is asked
  have no : (n = 0 ∨ isPt x y = false ∨ inN w 2 = false) → fX10_winSet_T x y w M = some (-1, M) ∧ fX10_winSet_E M x y w = some (-1) ∧ fX11_winSet x y w M = some (-1, M) := by
    intro hc
    unfold fX10_winSet_T fX10_winSet_E fX11_winSet fX10_winSet_T_27 fX10_winSet_E_27 fX11_winSet_25
    rw [h.2.1.1, e_voters, h.2.1.2.2.1, k_isPoint, e_isPoint, in_01]
    simp only [Option.bind_some]
    by_cases c0 : n = 0
    · simp [(n_0 hn).mpr c0]
    · have c0' : ¬ nI n = 0 := fun q => c0 ((n_0 hn).mp q)
      simp only [c0', if_false]
      cases c1 : isPt x y with
      | false => simp [bI]
      | true =>
        have c2 : inN w 2 = false := by
          rcases hc with q | q | q
          · exact absurd q c0
          · rw [c1] at q; cases q
          · exact q
        rw [c2]
        simp only [inN, Bool.and_eq_false_iff, decide_eq_false_iff_not] at c2
        by_cases c3 : w < 0
        · simp [c3, bI]
        · have c4 : ¬ w ≤ 1 := by
            rw [fa_le, one]
            rw [fa_lt, z] at c3
            omega
          simp [c3, c4, bI]
  by_cases hc : n = 0 ∨ isPt x y = false ∨ inN w 2 = false
  · obtain ⟨n1, n2, n3⟩ := no hc
    cases b with
    | true => exact Or.inl ⟨rfl, -1, M, M, n1, n3, hf rfl, sm_rf, Or.inl rfl⟩
    | false => exact Or.inr (Or.inl ⟨rfl, -1, M, n2, n3, sm_rf⟩)
  · have c0 : ¬ n = 0 := fun q => hc (Or.inl q)
    have c1 : isPt x y = true := by
      cases q : isPt x y with
      | true => rfl
      | false => exact absurd (Or.inr (Or.inl q)) hc
    have c2 : inN w 2 = true := by
      cases q : inN w 2 with
      | true => rfl
      | false => exact absurd (Or.inr (Or.inr q)) hc
    have c0' : ¬ nI n = 0 := fun q => c0 ((n_0 hn).mp q)
    have iw := inN_i.mp c2
    have w0 : ¬ w < 0 := by rw [fa_lt, z]; omega
    have w1 : w ≤ 1 := by rw [fa_le, one]; omega
    obtain ⟨a, ha, rfl, rfl⟩ := ptA c1
    have ref : ∀ {N1 N2 : Mem} {r : Int32}, DI N1 n p → (fX11_finds (nI (a / 100)) (nI (a % 100)) N1).bind (fun q => if w = 0 then fX11_winSet_48 (q.1 47 38) q else fX11_winSet_48 (q.1 47 37) q) = some (r, N2) → fX11_winSet (nI (a / 100)) (nI (a % 100)) w N1 = some (r, N2) := by
      intro N1 N2 r d1 hr
      unfold fX11_winSet
      rw [e_voters, d1.2.1.2.2.1, Option.bind_some, if_neg c0', e_isPoint, c1, Option.bind_some, if_neg (by decide), in_01, c2, Option.bind_some, if_neg (by decide)]
      exact hr
    cases b with
    | true =>
      left
      obtain ⟨r, N1, N2, r1, r2, r3, r4, r5, r6⟩ := c_winSet h (hf rfl) ha w
      refine ⟨rfl, r, N1, N2, ?_, ref r3 r2, r4, r6, Or.inr r5⟩
      unfold fX10_winSet_T fX10_fieldFrom_T
      rw [h.2.1.1, if_neg c0', k_isPoint, c1, Option.bind_some, if_neg (by decide), if_neg w0, if_pos w1]
      refine Eq.trans ?_ r1
      cases fX1_lookFrom (nI (a / 100)) (nI (a % 100)) M <;> rfl
    | false =>
      right; right
      have dF : DI (mkF M) n p := DI_on ((sm_mkF M).on _ (by decide) (by decide)) h
      obtain ⟨r, N1, N2, r1, r2, r3, r4, r5, r6⟩ := c_winSet dF (FK_mkF M) ha w
      refine ⟨rfl, r, N1, N2, ?_, ref r3 r2, r4, ((sm_mkF M).up (by decide)).tr r6, ?_⟩
      · unfold fX10_winSet_F fX10_fieldFrom_F
        rw [h.2.1.1, if_neg c0', k_isPoint, c1, Option.bind_some, if_neg (by decide), if_neg w0, if_pos w1]
        exact r1
      · rw [r5]; exact ((sm_mkF M).on [(1, 1, none)] (by decide) (by decide)).i 1 14 rfl
/-- most -/
theorem e_most22 {M : Mem} {n p a : Nat} (h : DI M n p) (ha : a < 10000) : fX11_most_22 M (fX11_most_57 M) FU (nI (a / 100)) (nI (a % 100)) 0 0 = some (gtD (cD M) a 10000) := by
  have e10 : (10000 : Int32) = nI 10000 := rfl
  have hh := for_ex (σ := Int32) (fun f i s => fX11_most_22 M (fX11_most_57 M) f (nI (a / 100)) (nI (a % 100)) s i) (fun s => some s) 10000 (fun i s => s = gtD (cD M) a i) ?_ ?_ 0 rfl FU (FU_gt (by omega))
  · obtain ⟨s, k1, k2⟩ := hh
    rw [← k2]; exact k1
  · rintro f i s hi rfl
    refine ⟨_, ?_, rfl⟩
    show fX11_most_22 M _ (f + 1) _ _ _ (nI i) = _
    rw [fX11_most_22, e10, if_neg (nI_ge hi (by omega)), div100 (by omega), irm100 (by omega), e_ft h, Option.bind_some, nx_eq, nx_eq, nI_s]
    rfl
  · rintro f s rfl
    show fX11_most_22 M _ (f + 1) _ _ _ (nI 10000) = _
    rw [fX11_most_22, e10, if_pos (nI_le (Nat.le_refl _) (by omega))]
    rfl
theorem s_most {M : Mem} {n p : Nat} (b : Bool) (h : DI M n p) (hf : b = true → FK M) (x y : Int32) : (b = true ∧ ∃ r M1, fX10_most_T x y M = some (r, M1) ∧ fX11_most M1 x y = some r ∧ FK M1 ∧ sm rgFd M M1 ∧ st1 M M1 141 10) ∨ (b = false ∧ ∃ r, fX10_most_E M x y = some r ∧ fX11_most M x y = some r) ∨ (b = false ∧ ∃ r M1, fX10_most_F x y M = some (r, M1) ∧ fX11_most M1 x y = some r ∧ FK M1 ∧ sm rgFd M M1 ∧ M1.1 141 10 = M.1 1 14) := by
  have hn := h.n15
  have no : (n = 0 ∨ isPt x y = false) → fX10_most_T x y M = some (-1, M) ∧ fX10_most_E M x y = some (-1) ∧ fX11_most M x y = some (-1) := by
    intro hc
    unfold fX10_most_T fX10_most_E fX11_most fX10_most_T_18 fX10_most_E_18 fX11_most_15
    rw [h.2.1.1, e_voters, h.2.1.2.2.1, k_isPoint, e_isPoint]
    simp only [Option.bind_some]
    by_cases c0 : n = 0
    · simp [(n_0 hn).mpr c0]
    · have c0' : ¬ nI n = 0 := fun q => c0 ((n_0 hn).mp q)
      have c1 : isPt x y = false := hc.resolve_left c0
      simp [c0', c1, bI]
  by_cases hc : n = 0 ∨ isPt x y = false
  · obtain ⟨n1, n2, n3⟩ := no hc
    cases b with
    | true => exact Or.inl ⟨rfl, -1, M, n1, n3, hf rfl, sm_rf, Or.inl rfl⟩
    | false => exact Or.inr (Or.inl ⟨rfl, -1, n2, n3⟩)
  · have c0 : ¬ n = 0 := fun q => hc (Or.inl q)
    have c1 : isPt x y = true := by
      cases q : isPt x y with
      | true => rfl
      | false => exact absurd (Or.inr q) hc
    have c0' : ¬ nI n = 0 := fun q => c0 ((n_0 hn).mp q)
    obtain ⟨a, ha, rfl, rfl⟩ := ptA c1
    have ref : ∀ {N1 : Mem}, DI N1 n p → fX11_most N1 (nI (a / 100)) (nI (a % 100)) = some (gtD (cD N1) a 10000) := by
      intro N1 d1
      unfold fX11_most
      rw [e_voters, d1.2.1.2.2.1, Option.bind_some, if_neg c0', e_isPoint, c1, Option.bind_some, if_neg (by decide)]
      exact e_most22 d1 ha
    cases b with
    | true =>
      left
      obtain ⟨A, a1, a2, a3, a4, a5⟩ := k_look h (hf rfl) ha
      have dA : DI A n p := DI_on (a5.on _ (by decide) (by decide)) h
      refine ⟨rfl, _, A, ?_, ref dA, FK_of ha a3 a2, a5.up (by decide), Or.inr a4⟩
      unfold fX10_most_T fX10_fieldFrom_T
      rw [h.2.1.1, if_neg c0', k_isPoint, c1, Option.bind_some, if_neg (by decide), a1, Option.bind_some, Option.bind_some, a2.2.1]
    | false =>
      right; right
      have dF : DI (mkF M) n p := DI_on ((sm_mkF M).on _ (by decide) (by decide)) h
      obtain ⟨A, a1, a2, a3, a4, a5⟩ := k_look dF (FK_mkF M) ha
      have dA : DI A n p := DI_on (a5.on _ (by decide) (by decide)) dF
      refine ⟨rfl, _, A, ?_, ref dA, FK_of ha a3 a2, ((sm_mkF M).up (by decide)).tr (a5.up (by decide)), ?_⟩
      · unfold fX10_most_F fX10_fieldFrom_F
        rw [h.2.1.1, if_neg c0', k_isPoint, c1, Option.bind_some, if_neg (by decide), a1, Option.bind_some, a2.2.1]
      · rw [a4]; exact ((sm_mkF M).on [(1, 1, none)] (by decide) (by decide)).i 1 14 rfl
