/-! Duels.refresh, whole -/
def psN (D : Dt) (P : Pq) (B : Bt) (p : Nat) : Nat → Nat
  | 0 => 0
  | i + 1 => psN D P B p i + fb_ct (bq D P B i) p
def ubI (D : Dt) (P : Pq) (B : Bt) (p : Nat) : Nat → Int32
  | 0 => -1
  | i + 1 => if ubI D P B p i = -1 ∧ fb_ct (bq D P B i) p = 0 then nI i else ubI D P B p i
/-- what Duels keeps is so -/
def DC (M : Mem) (p : Nat) : Prop := (∀ a b, a < p → b < p → M.1 22 (a * 20 + b) = nF (cD M) (cP M) a b) ∧ (∀ i, i < p → M.1 24 i = nI (btN (bq (cD M) (cP M) (cB M) i) p)) ∧ M.1 21 5 = nI (psN (cD M) (cP M) (cB M) p p) ∧ M.1 21 6 = ubI (cD M) (cP M) (cB M) p p
theorem DC_on {M M1 : Mem} {p : Nat} (h : on [(1, 9, none), (21, 21, some 5), (21, 21, some 6), (22, 22, none), (24, 24, none)] M M1) (hd : DC M p) : DC M1 p := by
  obtain ⟨h1, h2, h3, h4⟩ := hd
  refine ⟨fun a b ha hb => ?_, fun i hi => ?_, ?_, ?_⟩
  · rw [h.i 22 _ rfl, cD_on (h.sub (by decide)), cP_on (h.sub (by decide))]; exact h1 a b ha hb
  · rw [h.i 24 _ rfl, cD_on (h.sub (by decide)), cP_on (h.sub (by decide)), cB_on (h.sub (by decide))]; exact h2 i hi
  · rw [h.i 21 5 rfl, cD_on (h.sub (by decide)), cP_on (h.sub (by decide)), cB_on (h.sub (by decide))]; exact h3
  · rw [h.i 21 6 rfl, cD_on (h.sub (by decide)), cP_on (h.sub (by decide)), cB_on (h.sub (by decide))]; exact h4
theorem k_refresh95 {M : Mem} {p : Nat} {D : Dt} {P : Pq} {B : Bt} (hp : M.1 1 8 = nI p) (hp20 : p ≤ 20) (hB : okB (cB M)) (eB : cB M = B) (eT : M.1 1 7 = totD D) (hF : ∀ a b, a < p → b < p → M.1 22 (a * 20 + b) = nF D P a b) (h5 : M.1 21 5 = 0) (h6 : M.1 21 6 = -1) :
    ∃ M1, fX0_refresh_95 fX0_refresh_157 FU 0 M = some M1 ∧ (∀ i, i < p → M1.1 24 i = nI (btN (bq D P B i) p)) ∧ M1.1 21 5 = nI (psN D P B p p) ∧ M1.1 21 6 = ubI D P B p p ∧ sm [(21, 21, some 5), (21, 21, some 6), (24, 24, none)] M M1 := by
  have hh := for_ex (σ := Mem) (fun f i s => fX0_refresh_95 fX0_refresh_157 f i s) (fun s => some s) p
    (fun i s => (∀ j, j < i → s.1 24 j = nI (btN (bq D P B j) p)) ∧ s.1 21 5 = nI (psN D P B p i) ∧ s.1 21 6 = ubI D P B p i ∧ sm [(21, 21, some 5), (21, 21, some 6), (24, 24, none)] M s) ?_ ?_ M ⟨fun j h => absurd h (by omega), h5, h6, sm_rf⟩ FU (FU_gt (by omega))
  · obtain ⟨M1, h1, h2⟩ := hh
    exact ⟨M1, h1, h2⟩
  · intro f i s hi ⟨g1, g2, g3, g4⟩
    have hon := g4.on [(1, 9, none), (22, 22, none)] (by decide) (by decide)
    have hBs : cB s = B := (cB_on (hon.sub (R1 := [(1, 1, none)]) (by decide))).trans eB
    obtain ⟨M3, q1, q2, q3, q4⟩ := k_findBeaters (M := s) (D := D) (P := P) ((hon.i 1 8 rfl).trans hp) hp20 hi (by rw [hBs, ← eB]; exact hB) hBs ((hon.i 1 7 rfl).trans eT) (fun a b ha hb => (hon.i 22 _ rfl).trans (hF a b ha hb))
    have on3 := q4.on [(21, 21, none)] (by decide) (by decide)
    have e5 : M3.1 21 5 = nI (psN D P B p i) := (on3.i 21 5 rfl).trans g2
    have e6 : M3.1 21 6 = ubI D P B p i := (on3.i 21 6 rfl).trans g3
    have hi20 := inb_nI (show i < 20 by omega) (by decide)
    have hz : nI (btN (bq D P B i) p) = 0 ↔ fb_ct (bq D P B i) p = 0 := by
      rw [← btN_zero]
      have hlt := btN_lt (bq D P B i) p
      have hpw : 2 ^ p ≤ 2 ^ 20 := Nat.pow_le_pow_right (by decide) hp20
      exact nI_eq (b := 0) (by omega) (by decide)
    have hsm : sm [(21, 21, some 5), (21, 21, some 6), (24, 24, none)] M M3 := g4.tr (q4.up (by decide))
    have hstep : fX0_refresh_95 fX0_refresh_157 (f + 1) (nI i) s = fX0_refresh_95 fX0_refresh_157 f (nI (i + 1)) (if ubI D P B p i = -1 ∧ fb_ct (bq D P B i) p = 0 then sI (sI M3 21 5 (nI (psN D P B p (i + 1)))) 21 6 (nI i) else sI M3 21 5 (nI (psN D P B p (i + 1)))) := by
      rw [fX0_refresh_95, hon.i 1 8 rfl, hp, if_neg (nI_ge hi (by omega)), q1]
      unfold fX0_refresh_151
      simp only [Option.bind_some, hi20, if_true, ix_nI (show i < 2147483648 by omega), q2, bc_btN M3 (bq D P B i) (show p ≤ 24 by omega), nx_eq, e5, nI_s, nI_add]
      rw [sI_ne M3 (k := 21) (j := 5) (a := 21) (i := 6) _ (by decide), sI_ne M3 (k := 21) (j := 5) (a := 24) (i := i) _ (by omega), e6, q2]
      simp only [hz]
      by_cases c1 : ubI D P B p i = -1
      · by_cases c2 : fb_ct (bq D P B i) p = 0
        · rw [if_pos c1, if_pos c2, if_pos ⟨c1, c2⟩]; rfl
        · rw [if_pos c1, if_neg c2, if_neg (fun q => c2 q.2)]; rfl
      · rw [if_neg c1, if_neg (fun q => c1 q.1)]; rfl
    refine ⟨_, hstep, ?_⟩
    have a24 : ∀ j, j < i + 1 → M3.1 24 j = nI (btN (bq D P B j) p) := by
      intro j hj
      by_cases e : j = i
      · rw [e]; exact q2
      · rw [q3 j e]; exact g1 j (by omega)
    by_cases c : ubI D P B p i = -1 ∧ fb_ct (bq D P B i) p = 0
    · rw [if_pos c]
      refine ⟨fun j hj => ?_, ?_, ?_, (hsm.I rfl).I rfl⟩
      · rw [sI_nk _ _ (by decide), sI_nk _ _ (by decide)]; exact a24 j hj
      · rw [sI_nj _ _ (by decide), sI_at]
      · rw [sI_at, ubI, if_pos c]
    · rw [if_neg c]
      refine ⟨fun j hj => ?_, ?_, ?_, hsm.I rfl⟩
      · rw [sI_nk _ _ (by decide)]; exact a24 j hj
      · rw [sI_at]
      · rw [sI_nj _ _ (by decide), e6, ubI, if_neg c]
  · intro f s ⟨g1, g2, g3, g4⟩
    have hon := g4.on [(1, 9, none)] (by decide) (by decide)
    show fX0_refresh_95 fX0_refresh_157 (f + 1) (nI p) s = _
    rw [fX0_refresh_95, hon.i 1 8 rfl, hp, if_pos (nI_le (Nat.le_refl _) (by omega))]
    rfl
/-- what the class alone needs of its rows -/
def CI (M : Mem) (n p : Nat) : Prop := (n ≤ 15 ∧ p ≤ 20) ∧ (M.1 1 0 = nI n ∧ M.1 1 8 = nI p) ∧ okB (cB M) ∧ M.1 1 7 = totD (cD M)
theorem DI.ci {M : Mem} {n p : Nat} (h : DI M n p) : CI M n p := ⟨⟨h.1.1, h.1.2.1⟩, ⟨h.2.1.1, h.2.1.2.1⟩, h.2.2.2.2.2.2.1.2.1, h.2.2.2.2.2.2.2⟩
theorem k_refresh29 {M : Mem} {n p : Nat} (h : CI M n p) : ∃ M1, fX0_refresh_29 M = some M1 ∧ DC M1 p ∧ M1.1 21 7 = M.1 1 14 ∧ M1.1 21 8 = M.1 1 15 ∧ sm [(21, 24, none)] M M1 := by
  obtain ⟨⟨hn, hp⟩, ⟨h1, h2⟩, hB, hT⟩ := h
  unfold fX0_refresh_29
  simp only [nx_eq]
  rw [sI_ne M (a := 1) (i := 15) _ (by decide)]
  generalize hM0 : sI (sI M 21 7 (M.1 1 14)) 21 8 (M.1 1 15) = M0
  have s0 : sm [(21, 24, none)] M M0 := by rw [← hM0]; exact (sm_rf.I rfl).I rfl
  have a7 : M0.1 21 7 = M.1 1 14 := by rw [← hM0, sI_nj _ _ (by decide), sI_at]
  have a8 : M0.1 21 8 = M.1 1 15 := by rw [← hM0, sI_at]
  obtain ⟨M2, f1, f2, f3⟩ := j_fill (k := 22) (len := 400) (by decide) 0 M0
  rw [f1]
  simp only [Option.bind_some]
  have s2 : sm [(21, 24, none)] M M2 := s0.tr (f3.up (by decide))
  have o2 := s2.on [(1, 9, none)] (by decide) (by decide)
  obtain ⟨M3, v1, v2, v3⟩ := k_allVotes (M := M2) (n := n) (p := p) ((o2.i 1 0 rfl).trans h1) hn ((o2.i 1 8 rfl).trans h2) hp (fun a b ha hb => f2 _ (by omega)) fX0_refresh_83
  rw [v1]
  unfold fX0_refresh_83
  simp only [nx_eq]
  have s3 : sm [(21, 24, none)] M M3 := s2.tr (v3.up (by decide))
  generalize hM4 : sI (sI M3 21 5 0) 21 6 (-1) = M4
  have s34 : sm [(21, 21, some 5), (21, 21, some 6)] M3 M4 := by rw [← hM4]; exact (sm_rf.I rfl).I rfl
  have s4 : sm [(21, 24, none)] M M4 := s3.tr (s34.up (by decide))
  have o34 := s34.on [(22, 22, none), (21, 21, some 7), (21, 21, some 8)] (by decide) (by decide)
  have o4 := s4.on [(1, 9, none)] (by decide) (by decide)
  have c5 : M4.1 21 5 = 0 := by rw [← hM4, sI_nj _ _ (by decide), sI_at]
  have c6 : M4.1 21 6 = -1 := by rw [← hM4, sI_at]
  have eB4 : cB M4 = cB M := cB_on (o4.sub (by decide))
  have eD2 : cD M2 = cD M := cD_on (o2.sub (by decide))
  have eP2 : cP M2 = cP M := cP_on (o2.sub (by decide))
  obtain ⟨M5, w1, w2, w3, w4, w5⟩ := k_refresh95 (M := M4) (p := p) (D := cD M) (P := cP M) (B := cB M) ((o4.i 1 8 rfl).trans h2) hp (by rw [eB4]; exact hB) eB4 ((o4.i 1 7 rfl).trans hT) (fun a b ha hb => by rw [o34.i 22 _ rfl, v2 a b ha hb, eD2, eP2]) c5 c6
  have s5 : sm [(21, 24, none)] M M5 := s4.tr (w5.up (by decide))
  have o5 := s5.on [(1, 9, none)] (by decide) (by decide)
  have o45 := w5.on [(22, 22, none), (21, 21, some 7), (21, 21, some 8)] (by decide) (by decide)
  have o03 := v3.on [(21, 21, none)] (by decide) (by decide)
  have o02 := f3.on [(21, 21, none)] (by decide) (by decide)
  refine ⟨M5, w1, ⟨fun a b ha hb => ?_, fun i hi => ?_, ?_, ?_⟩, ?_, ?_, s5⟩
  · rw [o45.i 22 _ rfl, o34.i 22 _ rfl, v2 a b ha hb, eD2, eP2, cD_on (o5.sub (by decide)), cP_on (o5.sub (by decide))]
  · rw [w2 i hi, cD_on (o5.sub (by decide)), cP_on (o5.sub (by decide)), cB_on (o5.sub (by decide))]
  · rw [w3, cD_on (o5.sub (by decide)), cP_on (o5.sub (by decide)), cB_on (o5.sub (by decide))]
  · rw [w4, cD_on (o5.sub (by decide)), cP_on (o5.sub (by decide)), cB_on (o5.sub (by decide))]
  · rw [o45.i 21 7 rfl, o34.i 21 7 rfl, o03.i 21 7 rfl, o02.i 21 7 rfl, a7]
  · rw [o45.i 21 8 rfl, o34.i 21 8 rfl, o03.i 21 8 rfl, o02.i 21 8 rfl, a8]
/-- the cache's promise -/
def DK (M : Mem) (p : Nat) : Prop := M.1 21 7 = M.1 1 14 → M.1 21 8 = M.1 1 15 → DC M p
theorem k_refreshC {M : Mem} {n p : Nat} (h : CI M n p) (hk : DK M p) : ∃ M1, fX0_refresh M = some M1 ∧ DC M1 p ∧ M1.1 21 7 = M.1 1 14 ∧ M1.1 21 8 = M.1 1 15 ∧ sm [(21, 24, none)] M M1 := by
  unfold fX0_refresh
  by_cases c1 : M.1 21 7 = M.1 1 14
  · by_cases c2 : M.1 21 8 = M.1 1 15
    · rw [if_pos c1, if_pos c2]
      exact ⟨M, rfl, hk c1 c2, c1, c2, sm_rf⟩
    · rw [if_pos c1, if_neg c2]; exact k_refresh29 h
  · rw [if_neg c1]; exact k_refresh29 h
theorem k_refresh {M : Mem} {n p : Nat} (h : DI M n p) (hk : DK M p) : ∃ M1, fX0_refresh M = some M1 ∧ DC M1 p ∧ M1.1 21 7 = M.1 1 14 ∧ M1.1 21 8 = M.1 1 15 ∧ sm [(21, 24, none)] M M1 := k_refreshC h.ci hk
theorem DI_on {M M1 : Mem} {n p : Nat} (h : on [(1, 9, none), (50, 50, none), (53, 53, none), (56, 56, none), (59, 59, none), (62, 62, none), (65, 65, none), (68, 68, none), (71, 71, none), (73, 77, some 0), (75, 77, none)] M M1) (hd : DI M n p) : DI M1 n p := by
  obtain ⟨h0, ⟨a1, a2, a3, a4⟩, h2, h3, h4, h5, h6, h7⟩ := hd
  have eD : cD M1 = cD M := cD_on (h.sub (by decide))
  have eB : cB M1 = cB M := cB_on (h.sub (by decide))
  have rDe : rD M1 = rD M := by
    unfold rD
    rw [h.i 73 0 rfl, h.row 50 (fun _ => rfl), h.row 53 (fun _ => rfl), h.row 56 (fun _ => rfl), h.row 59 (fun _ => rfl), h.row 62 (fun _ => rfl), h.row 65 (fun _ => rfl)]
  have rBe : rB M1 = rB M := by
    unfold rB
    rw [h.i 75 0 rfl, h.i 76 0 rfl, h.i 77 0 rfl]
  refine ⟨h0, ⟨(h.i 1 0 rfl).trans a1, (h.i 1 8 rfl).trans a2, (h.i 73 0 rfl).trans a3, (h.i 74 0 rfl).trans a4⟩, fun v hv => ?_, fun q hq => ?_, ?_, fun q hq => ?_, ?_, ?_⟩
  · have := h2 v hv
    unfold okV at this ⊢
    rw [h.i 2 v rfl, h.i 3 v rfl, h.i 4 v rfl, h.i 5 v rfl, h.i 6 v rfl, h.i 7 v rfl]
    exact this
  · rw [h.i 8 q rfl, h.i 9 q rfl]; exact h3 q hq
  · rw [eD, rDe]; exact h4
  · rw [h.i 8 q rfl, h.i 9 q rfl, h.i 68 q rfl, h.i 71 q rfl]; exact h5 q hq
  · rw [eB, rBe]; exact h6
  · rw [h.i 1 7 rfl, eD]; exact h7
