/-! moves -/
theorem ixl2 : ix (2 : Int32) = 2 := rfl
theorem ixl3 : ix (3 : Int32) = 3 := rfl
theorem ixl4 : ix (4 : Int32) = 4 := rfl
theorem ixl5 : ix (5 : Int32) = 5 := rfl
theorem ixl6 : ix (6 : Int32) = 6 := rfl
theorem ixl7 : ix (7 : Int32) = 7 := rfl
theorem ixl8 : ix (8 : Int32) = 8 := rfl
def MV (M : Mem) (n : Nat) : Prop := ∃ s, s ≤ 40 ∧ M.1 45 1 = nI s ∧ M.1 47 48 = nI s ∧ ∀ k, k < s → (∀ w, w < 9 → M.1 46 (k * 9 + w) = M.1 (101 + k) w) ∧ inN (M.1 46 (k * 9 + 0)) n = true ∧ isPt (M.1 46 (k * 9 + 1)) (M.1 46 (k * 9 + 2)) = true
theorem MV_on {M M1 : Mem} {n : Nat} (h : on [(45, 46, none), (47, 47, some 48), (101, 140, none)] M M1) (hm : MV M n) : MV M1 n := by
  obtain ⟨s, h1, h2, h3, h4⟩ := hm
  refine ⟨s, h1, (h.i 45 1 rfl).trans h2, (h.i 47 48 rfl).trans h3, fun k hk => ?_⟩
  obtain ⟨a1, a2, a3⟩ := h4 k hk
  have hin : ∀ w, inS [(45, 46, none), (47, 47, some 48), (101, 140, none)] (101 + k) w = true := by
    intro w
    have c1 : 101 ≤ 101 + k := by omega
    have c2 : 101 + k ≤ 140 := by omega
    simp [inS, c1, c2]
  refine ⟨fun w hw => ?_, ?_, ?_⟩
  · rw [h.i 46 _ rfl, h.i (101 + k) w (hin w)]; exact a1 w hw
  · rw [h.i 46 _ rfl]; exact a2
  · rw [h.i 46 _ rfl, h.i 46 _ rfl]; exact a3
theorem k_9 {k w : Nat} : nI k * (9 : Int32) + nI w = nI (k * 9 + w) := by
  have e : (9 : Int32) = nI 9 := rfl
  rw [e, pk_mul, nI_add]
theorem k_get (M : Mem) {k w : Nat} (hk : k < 40) (hw : w < 9) : fX5_get M (nI k) (nI w) = some (M.1 46 (k * 9 + w)) := by
  unfold fX5_get
  rw [k_9, if_pos (inb_nI (show k * 9 + w < 360 by omega) (by decide)), ix_nI (by omega)]
theorem s_moved {M : Mem} {n : Nat} (h : MV M n) (a b : Int32) : ∃ r, fX10_moved M a b = some r ∧ fX11_moved M a b = some r := by
  obtain ⟨s, hs, h1, h2, h3⟩ := h
  unfold fX10_moved fX11_moved fX10_moved_25 fX11_moved_39 fX11_moved_40
  rw [h1, h2, e_isN M a (by omega), e_in, inN_lit b (k := 8) (by decide)]
  simp only [Option.bind_some]
  have z0 : (0 : Int32).toInt = 0 := rfl
  have z9 : (9 : Int32).toInt = 9 := rfl
  by_cases ca : inN a s = true
  · obtain ⟨k, hk, rfl⟩ := inN_of ca (by omega)
    have k0 : ¬ nI k < 0 := by rw [fa_lt, nI_toInt (by omega)]; omega
    have k1 : ¬ nI s ≤ nI k := nI_ge hk (by omega)
    by_cases cb : inN b 9 = true
    · obtain ⟨w, hw, rfl⟩ := inN_of cb (by omega)
      have w0 : ¬ nI w < 0 := by rw [fa_lt, nI_toInt (by omega)]; omega
      have w1 : nI w < 9 := by rw [fa_lt, nI_toInt (by omega)]; omega
      refine ⟨M.1 46 (k * 9 + w), ?_, ?_⟩
      · rw [if_neg k0, if_neg k1, if_neg w0, if_pos w1, k_get M (by omega) hw]; rfl
      · rw [ca, cb, if_neg (by decide), if_neg (by decide), if_pos (inb_nI (show k < 40 by omega) (by decide)), if_pos (inb_nI hw (by decide)), ix_nI (by omega), ix_nI (by omega), (h3 k hk).1 w hw]
    · have eb : inN b 9 = false := by simpa using cb
      refine ⟨-1, ?_, ?_⟩
      · rw [if_neg k0, if_neg k1]
        by_cases w0 : b < 0
        · rw [if_pos w0]
        · rw [if_neg w0, if_neg]
          intro w1
          apply cb
          have := (fa_lt _ _).mp w1
          have w0' : ¬ b.toInt < (0 : Int32).toInt := fun q => w0 ((fa_lt _ _).mpr q)
          simp only [inN, Bool.and_eq_true, decide_eq_true_eq]
          omega
      · rw [ca, eb, if_neg (by decide)]; rfl
  · have ea : inN a s = false := by simpa using ca
    refine ⟨-1, ?_, ?_⟩
    · by_cases k0 : a < 0
      · rw [if_pos k0]
      · rw [if_neg k0, if_pos]
        apply fa_of_nlt
        intro w1
        apply ca
        have := (fa_lt _ _).mp w1
        rw [nI_toInt (by omega)] at this
        have w0' : ¬ a.toInt < (0 : Int32).toInt := fun q => k0 ((fa_lt _ _).mpr q)
        simp only [inN, Bool.and_eq_true, decide_eq_true_eq]
        omega
    · rw [ea]; rfl
/-! a voter put elsewhere -/
def up (f : Nat → Int32) (v : Nat) (x : Int32) : Nat → Int32 := fun j => if j = v then x else f j
def pM (M : Mem) (v : Nat) (x y : Int32) : Mem := sI (sI (sI M 2 v x) 3 v y) 1 14 (M.1 1 14 + 1)
theorem k_put {M : Mem} {n v : Nat} (hn : M.1 1 0 = nI n) (hn15 : n ≤ 15) (hv : v < n) (x y : Int32) : fX8_put_t (nI v) x y M = some (pM M v x y) := by
  unfold fX8_put_t pM
  rw [k_hasVoter M _ hn hn15, inN_nI hv (by omega)]
  simp only [Option.bind_some, show ¬ bI true = 0 by decide, if_false, inb_nI (show v < 15 by omega) (by decide), if_true, ix_nI (show v < 2147483648 by omega), nx_eq]
  rw [sI_nk _ _ (by decide), sI_nk _ _ (by decide)]
def rgD : Rg := [(1, 1, some 0), (1, 1, some 7), (1, 1, some 8), (1, 1, some 11), (1, 1, some 12), (1, 1, some 13), (4, 9, none), (56, 56, none), (59, 59, none), (62, 62, none), (65, 65, none), (68, 68, none), (71, 71, none), (73, 77, some 0)]
theorem sI_up (M : Mem) (k v : Nat) (x : Int32) : (sI M k v x).1 k = up (M.1 k) v x := by
  funext j
  unfold up
  by_cases e : j = v
  · rw [e, sI_at, if_pos rfl]
  · rw [sI_nj _ _ e, if_neg e]
theorem DI_put {M M2 : Mem} {n p v : Nat} {x y : Int32} (h : DI M n p) (hx : isPt x y = true) (o : on rgD M M2) (r2 : M2.1 2 = up (M.1 2) v x) (r3 : M2.1 3 = up (M.1 3) v y) (r50 : M2.1 50 = up (M.1 50) v x) (r53 : M2.1 53 = up (M.1 53) v y) : DI M2 n p := by
  obtain ⟨h0, ⟨a1, a2, a3, a4⟩, hv, hq, hD, hP, hB, hT⟩ := h
  have hx1 : inN x 100 = true ∧ inN y 100 = true := by simpa [isPt] using hx
  have eB : cB M2 = cB M := by unfold cB; rw [o.i 1 11 rfl, o.i 1 12 rfl, o.i 1 13 rfl]
  have eR : rB M2 = rB M := by unfold rB; rw [o.i 75 0 rfl, o.i 76 0 rfl, o.i 77 0 rfl]
  refine ⟨h0, ⟨(o.i 1 0 rfl).trans a1, (o.i 1 8 rfl).trans a2, (o.i 73 0 rfl).trans a3, (o.i 74 0 rfl).trans a4⟩, fun j hj => ?_, fun q hq' => ?_, ?_, fun q hq' => ?_, ?_, ?_⟩
  · obtain ⟨b1, b2, b3⟩ := hv j hj
    refine ⟨?_, ?_, ?_⟩
    · rw [r2]; unfold up; split
      · exact hx1.1
      · exact b1
    · rw [r3]; unfold up; split
      · exact hx1.2
      · exact b2
    · rw [o.i 4 j rfl, o.i 5 j rfl, o.i 6 j rfl, o.i 7 j rfl]; exact b3
  · rw [o.i 8 q rfl, o.i 9 q rfl]; exact hq q hq'
  · refine ⟨?_, fun j hj => ?_⟩
    · show ix (M2.1 1 0) = ix (M2.1 73 0)
      rw [o.i 1 0 rfl, o.i 73 0 rfl]; exact hD.1
    · have hj' : j < (cD M).1 := by
        have e : (cD M2).1 = (cD M).1 := by show ix (M2.1 1 0) = ix (M.1 1 0); rw [o.i 1 0 rfl]
        rw [← e]; exact hj
      obtain ⟨d1, d2, d3, d4, d5, d6⟩ := hD.2 j hj'
      refine ⟨?_, ?_, ?_, ?_, ?_, ?_⟩
      · show M2.1 2 j = M2.1 50 j
        rw [r2, r50]; unfold up
        split
        · rfl
        · exact d1
      · show M2.1 3 j = M2.1 53 j
        rw [r3, r53]; unfold up
        split
        · rfl
        · exact d2
      · show M2.1 4 j = M2.1 56 j
        rw [o.i 4 j rfl, o.i 56 j rfl]; exact d3
      · show M2.1 5 j = M2.1 59 j
        rw [o.i 5 j rfl, o.i 59 j rfl]; exact d4
      · show M2.1 6 j = M2.1 62 j
        rw [o.i 6 j rfl, o.i 62 j rfl]; exact d5
      · show M2.1 7 j = M2.1 65 j
        rw [o.i 7 j rfl, o.i 65 j rfl]; exact d6
  · rw [o.i 8 q rfl, o.i 9 q rfl, o.i 68 q rfl, o.i 71 q rfl]; exact hP q hq'
  · rw [eB, eR]; exact hB
  · rw [o.i 1 7 rfl, hT]
    unfold totD cD
    simp only
    rw [o.i 1 0 rfl, o.row 4 (fun _ => rfl)]
theorem s_undo {M : Mem} {n p : Nat} (h : DI M n p) (hm : MV M n) : ∃ r M1 M2, fX10_undo M = some (r, M1) ∧ fX11_undo M1 = some (r, M2) ∧ DI M2 n p ∧ MV M2 n ∧ (M2 = M ∨ (M2.1 1 14 = M.1 1 14 + 1 ∧ M2.1 47 29 = 0 ∧ sm [(1, 1, some 14), (2, 3, none), (45, 45, some 1), (47, 47, some 48), (47, 47, some 29), (50, 50, none), (53, 53, none)] M M2)) := by
  obtain ⟨s, hs, h1, h2, h3⟩ := hm
  unfold fX10_undo fX11_undo
  rw [h1]
  by_cases c : s = 0
  · subst c
    refine ⟨-1, M, M, if_pos rfl, ?_, h, ⟨0, by omega, h1, h2, fun k hk => absurd hk (by omega)⟩, Or.inl rfl⟩
    rw [h2]; exact if_pos rfl
  · have hs0 : ¬ nI s = 0 := nI_ne (b := 0) c (by omega) (by omega)
    have hsub : nI s - 1 = nI (s - 1) := pk_sub (a := s) (b := 1) (by omega)
    obtain ⟨b1, b2, b3⟩ := h3 (s - 1) (by omega)
    obtain ⟨v, hv, ev⟩ := inN_of b2 (by have := h.n15; omega)
    have hn15 := h.n15
    rw [if_neg hs0, nx_eq, hsub]
    have g0 := k_get M (k := s - 1) (w := 0) (by omega) (by omega)
    have g1 := k_get M (k := s - 1) (w := 1) (by omega) (by omega)
    have g2 := k_get M (k := s - 1) (w := 2) (by omega) (by omega)
    have q0 : fX5_get M (nI (s - 1)) 0 = some (nI v) := g0.trans (congrArg some ev)
    rw [q0, show fX5_get M (nI (s - 1)) 1 = _ from g1, show fX5_get M (nI (s - 1)) 2 = _ from g2]
    simp only [Option.bind_some]
    rw [k_put h.2.1.1 h.n15 hv]
    simp only [Option.bind_some, nx_eq]
    generalize hX : M.1 46 ((s - 1) * 9 + 1) = X at *
    generalize hY : M.1 46 ((s - 1) * 9 + 2) = Y at *
    have w0 := b1 0 (by omega)
    have w1 := b1 1 (by omega)
    have w2 := b1 2 (by omega)
    rw [ev] at w0
    rw [hX] at w1
    rw [hY] at w2
    refine ⟨nI v, sI (pM M v X Y) 45 1 (nI (s - 1)), sI (sI (sI (sI (sI (pM M v X Y) 45 1 (nI (s - 1))) 47 48 (nI (s - 1))) 50 v X) 53 v Y) 47 29 0, rfl, ?_, ?_, ?_, Or.inr ⟨?_, sI_at .., ?_⟩⟩
    · unfold pM
      have e48 : (sI (sI (sI (sI M 2 v X) 3 v Y) 1 14 (M.1 1 14 + 1)) 45 1 (nI (s - 1))).1 47 48 = nI s := by
        rw [sI_nk _ _ (by decide), sI_nk _ _ (by decide), sI_nk _ _ (by decide), sI_nk _ _ (by decide)]; exact h2
      rw [e48, if_neg hs0, hsub]
      have hs40 := inb_nI (show s - 1 < 40 by omega) (by decide)
      have hv15 := inb_nI (show v < 15 by omega) (by decide)
      have er : ∀ w, (sI (sI (sI (sI (sI M 2 v X) 3 v Y) 1 14 (M.1 1 14 + 1)) 45 1 (nI (s - 1))) 47 48 (nI (s - 1))).1 (101 + (s - 1)) w = M.1 (101 + (s - 1)) w := by
        intro w
        rw [sI_nk _ _ (by omega), sI_nk _ _ (by omega), sI_nk _ _ (by omega), sI_nk _ _ (by omega), sI_nk _ _ (by omega)]
      have e50 : ∀ S : Mem, ∀ z, (sI S 50 v z).1 47 48 = S.1 47 48 := fun S z => sI_nk _ _ (by decide)
      simp only [sI_at, hs40, if_true, nx_eq, ix_nI (show s - 1 < 2147483648 by omega), er, ixl0, ixl1, ixl2, ← w0, ← w1, hv15, ix_nI (show v < 2147483648 by omega), e50]
      rw [sI_nk _ _ (show 101 + (s - 1) ≠ 50 by omega), er, ← w2]
    · refine DI_put (v := v) (x := X) (y := Y) h b3 ?_ ?_ ?_ ?_ ?_
      · unfold pM
        have hsm : sm [(1, 1, some 14), (2, 3, none), (45, 45, some 1), (47, 47, some 48), (47, 47, some 29), (50, 50, none), (53, 53, none)] M (sI (sI (sI (sI (sI (sI (sI (sI M 2 v X) 3 v Y) 1 14 (M.1 1 14 + 1)) 45 1 (nI (s - 1))) 47 48 (nI (s - 1))) 50 v X) 53 v Y) 47 29 0) :=
          (((((((sm_rf.I (by rfl)).I (by rfl)).I (by rfl)).I (by rfl)).I (by rfl)).I (by rfl)).I (by rfl)).I (by rfl)
        exact hsm.on rgD (by decide) (by decide)
      · funext j; unfold pM up; simp [sI]
      · funext j; unfold pM up; simp [sI]
      · funext j; unfold pM up; simp [sI]
      · funext j; unfold pM up; simp [sI]
    · refine ⟨s - 1, by omega, ?_, ?_, fun k hk => ?_⟩
      · unfold pM; simp [sI]
      · unfold pM; simp [sI]
      · obtain ⟨d1, d2, d3⟩ := h3 k (by omega)
        have e46 : ∀ i, (sI (sI (sI (sI (sI (pM M v X Y) 45 1 (nI (s - 1))) 47 48 (nI (s - 1))) 50 v X) 53 v Y) 47 29 0).1 46 i = M.1 46 i := by
          intro i; unfold pM; simp [sI]
        have e101 : ∀ i, (sI (sI (sI (sI (sI (pM M v X Y) 45 1 (nI (s - 1))) 47 48 (nI (s - 1))) 50 v X) 53 v Y) 47 29 0).1 (101 + k) i = M.1 (101 + k) i := by
          intro i; unfold pM
          rw [sI_nk _ _ (by omega), sI_nk _ _ (by omega), sI_nk _ _ (by omega), sI_nk _ _ (by omega), sI_nk _ _ (by omega), sI_nk _ _ (by omega), sI_nk _ _ (by omega), sI_nk _ _ (by omega)]
        refine ⟨fun w hw => ?_, ?_, ?_⟩
        · rw [e46, e101]; exact d1 w hw
        · rw [e46]; exact d2
        · rw [e46, e46]; exact d3
    · unfold pM; simp [sI]
    · unfold pM
      exact (((((((sm_rf.I (by rfl)).I (by rfl)).I (by rfl)).I (by rfl)).I (by rfl)).I (by rfl)).I (by rfl)).I (by rfl)
/-! a place more -/
theorem s_propose {M : Mem} {n p : Nat} (h : DI M n p) (x y : Int32) : ∃ r M1 M2, fX10_propose x y M = some (r, M1) ∧ fX11_propose x y M1 = some (r, M2) ∧ ((M2 = M) ∨ (DI M2 n (p + 1) ∧ M2.1 1 15 = M.1 1 15 + 1 ∧ sm [(1, 1, some 8), (1, 1, some 15), (8, 9, none), (68, 68, none), (71, 71, none), (74, 74, some 0)] M M2)) := by
  obtain ⟨⟨hn, hp, hnp⟩, ⟨h1, h2, h3, h4⟩, hv, hq, hD, hP, hB, hT⟩ := id h
  unfold fX10_propose fX11_propose fX10_propose_30 fX11_propose_24
  simp only [k_isPoint, e_isPoint, e_voters, e_places, Option.bind_some]
  rw [h1, h2]
  have e20 : (20 : Int32) = nI 20 := rfl
  by_cases c0 : nI n = 0
  · refine ⟨-1, M, M, if_pos c0, ?_, Or.inl rfl⟩
    rw [h3, if_pos c0]
  · rw [if_neg c0]
    cases hc : isPt x y with
    | false =>
      refine ⟨-1, M, M, rfl, ?_, Or.inl rfl⟩
      rw [h3, if_neg c0]; rfl
    | true =>
      rw [if_neg (show ¬ bI true = 0 by decide)]
      by_cases c20 : p = 20
      · refine ⟨-1, M, M, ?_, ?_, Or.inl rfl⟩
        · rw [if_neg]
          rw [c20]; decide
        · rw [h3, if_neg c0, if_neg (show ¬ bI true = 0 by decide), h4, e20, if_pos (by rw [c20])]
      · have hlt : p < 20 := by omega
        have hlt2 : nI p < 20 := by
          rw [fa_lt, nI_toInt (by omega)]
          have : (20 : Int32).toInt = 20 := rfl
          omega
        have hin := inb_nI hlt (by decide)
        have hx1 : inN x 100 = true ∧ inN y 100 = true := by simpa [isPt] using hc
        have ka : fX8_addPlace_t x y M = some (sI (sI (sI (sI M 8 p x) 9 p y) 1 8 (nI (p + 1))) 1 15 (M.1 1 15 + 1)) := by
          unfold fX8_addPlace_t
          rw [h2, if_pos hlt2, if_pos hin, nx_eq, ix_nI (by omega)]
          simp only [sI_nk _ _ (show (1 : Nat) ≠ 8 by decide), sI_nk _ _ (show (1 : Nat) ≠ 9 by decide), h2, hin, if_true, nx_eq, ix_nI (show p < 2147483648 by omega), nI_s]
          rw [sI_nj _ _ (by decide), sI_nk _ _ (by decide), sI_nk _ _ (by decide)]
        rw [if_pos hlt2, ka]
        simp only [Option.bind_some]
        generalize hM1 : sI (sI (sI (sI M 8 p x) 9 p y) 1 8 (nI (p + 1))) 1 15 (M.1 1 15 + 1) = M1
        have s1 : sm [(1, 1, some 8), (1, 1, some 15), (8, 9, none)] M M1 := by
          rw [← hM1]; exact (((sm_rf.I (by rfl)).I (by rfl)).I (by rfl)).I (by rfl)
        have o1 := s1.on [(68, 68, none), (71, 71, none), (73, 74, some 0)] (by decide) (by decide)
        have e8 : M1.1 1 8 = nI (p + 1) := by rw [← hM1, sI_nj _ _ (by decide), sI_at]
        have e73 : M1.1 73 0 = nI n := (o1.i 73 0 rfl).trans h3
        have e74 : M1.1 74 0 = nI p := (o1.i 74 0 rfl).trans h4
        refine ⟨nI p, M1, sI (sI (sI M1 68 p x) 71 p y) 74 0 (nI (p + 1)), ?_, ?_, Or.inr ⟨?_, ?_, ?_⟩⟩
        · rw [e8]
          have := pk_sub (a := p + 1) (b := 1) (by omega)
          rw [show nI (p + 1) - 1 = nI p from this]
        · rw [e73, if_neg c0, if_neg (show ¬ bI true = 0 by decide), e74, e20, if_neg (nI_ne c20 (by omega) (by omega)), if_pos hin, nx_eq, ix_nI (by omega), sI_nk _ _ (by decide), e74, if_pos hin]
          simp only [nx_eq, ix_nI (show p < 2147483648 by omega), ixl0]
          rw [sI_nk _ _ (show (74 : Nat) ≠ 71 by decide), sI_nk _ _ (show (74 : Nat) ≠ 68 by decide), e74, nI_s, sI_at]
          have := pk_sub (a := p + 1) (b := 1) (by omega)
          rw [show nI (p + 1) - 1 = nI p from this]
        · generalize hM2 : sI (sI (sI M1 68 p x) 71 p y) 74 0 (nI (p + 1)) = M2
          have s2 : sm [(1, 1, some 8), (1, 1, some 15), (8, 9, none), (68, 68, none), (71, 71, none), (74, 74, some 0)] M M2 := by
            rw [← hM2]; exact (((s1.up (by decide)).I (by rfl)).I (by rfl)).I (by rfl)
          have o := s2.on [(1, 1, some 0), (1, 1, some 7), (1, 1, some 11), (1, 1, some 12), (1, 1, some 13), (2, 7, none), (50, 50, none), (53, 53, none), (56, 56, none), (59, 59, none), (62, 62, none), (65, 65, none), (73, 73, some 0), (75, 77, some 0)] (by decide) (by decide)
          have r8 : ∀ j, M2.1 8 j = if j = p then x else M.1 8 j := by intro j; rw [← hM2, ← hM1]; simp [sI]
          have r9 : ∀ j, M2.1 9 j = if j = p then y else M.1 9 j := by intro j; rw [← hM2, ← hM1]; simp [sI]
          have r68 : ∀ j, M2.1 68 j = if j = p then x else M.1 68 j := by intro j; rw [← hM2, ← hM1]; simp [sI]
          have r71 : ∀ j, M2.1 71 j = if j = p then y else M.1 71 j := by intro j; rw [← hM2, ← hM1]; simp [sI]
          have eD : cD M2 = cD M := by
            unfold cD
            rw [o.i 1 0 rfl, o.row 2 (fun _ => rfl), o.row 3 (fun _ => rfl), o.row 4 (fun _ => rfl), o.row 5 (fun _ => rfl), o.row 6 (fun _ => rfl), o.row 7 (fun _ => rfl)]
          have eR : rD M2 = rD M := by
            unfold rD
            rw [o.i 73 0 rfl, o.row 50 (fun _ => rfl), o.row 53 (fun _ => rfl), o.row 56 (fun _ => rfl), o.row 59 (fun _ => rfl), o.row 62 (fun _ => rfl), o.row 65 (fun _ => rfl)]
          have eB : cB M2 = cB M := by unfold cB; rw [o.i 1 11 rfl, o.i 1 12 rfl, o.i 1 13 rfl]
          have eRB : rB M2 = rB M := by unfold rB; rw [o.i 75 0 rfl, o.i 76 0 rfl, o.i 77 0 rfl]
          refine ⟨⟨hn, by omega, fun e => ?_⟩, ⟨(o.i 1 0 rfl).trans h1, ?_, (o.i 73 0 rfl).trans h3, ?_⟩, fun v hv' => ?_, fun q hq' => ?_, by rw [eD, eR]; exact hD, fun q hq' => ?_, by rw [eB, eRB]; exact hB, by rw [o.i 1 7 rfl, eD]; exact hT⟩
          · exact absurd (by rw [e]; rfl) c0
          · rw [← hM2, sI_nk _ _ (by decide), sI_nk _ _ (by decide), sI_nk _ _ (by decide)]; exact e8
          · rw [← hM2, sI_at]
          · have := hv v hv'
            unfold okV at this ⊢
            rw [o.i 2 v rfl, o.i 3 v rfl, o.i 4 v rfl, o.i 5 v rfl, o.i 6 v rfl, o.i 7 v rfl]
            exact this
          · rw [r8, r9]
            by_cases e : q = p
            · rw [if_pos e, if_pos e]; exact hx1
            · rw [if_neg e, if_neg e]; exact hq q (by omega)
          · rw [r8, r9, r68, r71]
            by_cases e : q = p
            · simp [e]
            · simp only [e, if_false]; exact hP q (by omega)
        · rw [← hM1]; simp [sI]
        · exact (((s1.up (by decide)).I (by rfl)).I (by rfl)).I (by rfl)
