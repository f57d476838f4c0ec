/-! move -/
theorem k_set {M : Mem} {s w : Nat} (hs : s < 40) (hw : w < 9) (h : M.1 45 1 = nI s) (z : Int32) : fX5_set (nI w) z M = some (sI M 46 (s * 9 + w) z) := by
  unfold fX5_set
  rw [h, k_9, if_pos (inb_nI (show s * 9 + w < 360 by omega) (by decide)), ix_nI (by omega)]
  rfl
def opM (M : Mem) (s : Nat) (a b c d e : Int32) : Mem := sI (sI (sI (sI (sI M 46 (s * 9 + 0) a) 46 (s * 9 + 1) b) 46 (s * 9 + 2) c) 46 (s * 9 + 5) d) 46 (s * 9 + 7) e
def clM (M : Mem) (s : Nat) (a b c d : Int32) : Mem := sI (sI (sI (sI (sI M 46 (s * 9 + 3) a) 46 (s * 9 + 4) b) 46 (s * 9 + 6) c) 46 (s * 9 + 8) d) 45 1 (nI (s + 1))
theorem lt40 {s : Nat} (hs : s < 40) : nI s < 40 := by
  rw [fa_lt, nI_toInt (by omega)]
  have : (40 : Int32).toInt = 40 := rfl
  omega
theorem k_open {M : Mem} {s : Nat} (hs : s < 40) (h : M.1 45 1 = nI s) (a b c d e : Int32) : fX5_open a b c d e M = some (opM M s a b c d e) := by
  unfold fX5_open opM
  have hk : ∀ (S : Mem) i z, (sI S 46 i z).1 45 1 = S.1 45 1 := fun S i z => sI_nk _ _ (by decide)
  rw [h, if_pos (lt40 hs)]
  rw [show fX5_set (0 : Int32) a M = _ from k_set (w := 0) hs (by omega) h a, Option.bind_some]
  rw [show ∀ S : Mem, fX5_set (1 : Int32) b S = fX5_set (nI 1) b S from fun _ => rfl, k_set hs (by omega) (by rw [hk, h]), Option.bind_some]
  rw [show ∀ S : Mem, fX5_set (2 : Int32) c S = fX5_set (nI 2) c S from fun _ => rfl, k_set hs (by omega) (by rw [hk, hk, h]), Option.bind_some]
  rw [show ∀ S : Mem, fX5_set (5 : Int32) d S = fX5_set (nI 5) d S from fun _ => rfl, k_set hs (by omega) (by rw [hk, hk, hk, h]), Option.bind_some]
  rw [show ∀ S : Mem, fX5_set (7 : Int32) e S = fX5_set (nI 7) e S from fun _ => rfl, k_set hs (by omega) (by rw [hk, hk, hk, hk, h]), Option.bind_some]
theorem k_close {M : Mem} {s : Nat} (hs : s < 40) (h : M.1 45 1 = nI s) (a b c d : Int32) : fX5_close a b c d M = some (clM M s a b c d) := by
  unfold fX5_close clM
  have hk : ∀ (S : Mem) i z, (sI S 46 i z).1 45 1 = S.1 45 1 := fun S i z => sI_nk _ _ (by decide)
  rw [h, if_pos (lt40 hs)]
  rw [show fX5_set (3 : Int32) a M = _ from k_set (w := 3) hs (by omega) h a, Option.bind_some]
  rw [show ∀ S : Mem, fX5_set (4 : Int32) b S = fX5_set (nI 4) b S from fun _ => rfl, k_set hs (by omega) (by rw [hk, h]), Option.bind_some]
  rw [show ∀ S : Mem, fX5_set (6 : Int32) c S = fX5_set (nI 6) c S from fun _ => rfl, k_set hs (by omega) (by rw [hk, hk, h]), Option.bind_some]
  rw [show ∀ S : Mem, fX5_set (8 : Int32) d S = fX5_set (nI 8) d S from fun _ => rfl, k_set hs (by omega) (by rw [hk, hk, hk, h]), Option.bind_some]
  rw [hk, hk, hk, hk, h, nI_s]
  rfl
theorem RI_on {M M1 : Mem} {n p : Nat} (h : on [(56, 56, none), (73, 77, some 0)] M M1) (hr : RI M n p) : RI M1 n p := by
  obtain ⟨h1, h2, h3, h4, h5, h6, h7⟩ := hr
  have eB : rB M1 = rB M := by unfold rB; rw [h.i 75 0 rfl, h.i 76 0 rfl, h.i 77 0 rfl]
  have eT : totD (rD M1) = totD (rD M) := by
    unfold totD rD
    simp only
    rw [h.i 73 0 rfl, h.row 56 (fun _ => rfl)]
  refine ⟨h1, h2, (h.i 73 0 rfl).trans h3, (h.i 74 0 rfl).trans h4, ?_, ?_, ?_⟩
  · rw [eB]; exact h5
  · rw [eB]; exact h6
  · rw [eT]; exact h7
theorem CI_on {M M1 : Mem} {n p : Nat} (h : on [(1, 1, some 0), (1, 1, some 7), (1, 1, some 8), (1, 1, some 11), (1, 1, some 12), (1, 1, some 13), (4, 4, none)] M M1) (hr : CI M n p) : CI M1 n p := by
  obtain ⟨h1, ⟨h2, h3⟩, h4, h5⟩ := hr
  have eB : cB M1 = cB M := by unfold cB; rw [h.i 1 11 rfl, h.i 1 12 rfl, h.i 1 13 rfl]
  have eT : totD (cD M1) = totD (cD M) := by
    unfold totD cD
    simp only
    rw [h.i 1 0 rfl, h.row 4 (fun _ => rfl)]
  exact ⟨h1, ⟨(h.i 1 0 rfl).trans h2, (h.i 1 8 rfl).trans h3⟩, by rw [eB]; exact h4, by rw [h.i 1 7 rfl, eT]; exact h5⟩
theorem rD_on {M M1 : Mem} (h : on [(50, 50, none), (53, 53, none), (56, 56, none), (59, 59, none), (62, 62, none), (65, 65, none), (73, 73, some 0)] M M1) : rD M1 = rD M := by
  unfold rD
  rw [h.i 73 0 rfl, h.row 50 (fun _ => rfl), h.row 53 (fun _ => rfl), h.row 56 (fun _ => rfl), h.row 59 (fun _ => rfl), h.row 62 (fun _ => rfl), h.row 65 (fun _ => rfl)]
theorem rP_on {M M1 : Mem} (h : on [(68, 68, none), (71, 71, none), (74, 74, some 0)] M M1) : rP M1 = rP M := by
  unfold rP
  rw [h.i 74 0 rfl, h.row 68 (fun _ => rfl), h.row 71 (fun _ => rfl)]
theorem rB_on {M M1 : Mem} (h : on [(75, 77, some 0)] M M1) : rB M1 = rB M := by
  unfold rB
  rw [h.i 75 0 rfl, h.i 76 0 rfl, h.i 77 0 rfl]
def rgM : Rg := [(47, 47, some 48), (47, 47, some 29), (50, 50, none), (53, 53, none), (101, 140, none)]
theorem in101 {s w : Nat} (hs : s < 40) : inS [(101, 140, none)] (101 + s) w = true := by
  have c1 : 101 ≤ 101 + s := by omega
  have c2 : 101 + s ≤ 140 := by omega
  simp [inS, c1, c2]
theorem in101M {s w : Nat} (hs : s < 40) : inS rgM (101 + s) w = true := by
  have c1 : 101 ≤ 101 + s := by omega
  have c2 : 101 + s ≤ 140 := by omega
  simp [rgM, inS, c1, c2]
/-- the reference's rows of a move, whatever the four facts are -/
def mvA (M : Mem) (v s : Nat) (x y : Int32) : Mem := sI (sI (sI (sI (sI M (101 + s) 0 (nI v)) (101 + s) 1 (M.1 50 v)) (101 + s) 2 (M.1 53 v)) (101 + s) 3 x) (101 + s) 4 y
def mvB (M : Mem) (v s : Nat) (x y q5 q7 : Int32) : Mem := sI (sI (sI (sI (mvA M v s x y) (101 + s) 5 q5) (101 + s) 7 q7) 50 v x) 53 v y
def mvC (M : Mem) (v s : Nat) (x y q5 q7 q6 q8 : Int32) : Mem := sI (sI (sI (sI (mvB M v s x y q5 q7) (101 + s) 6 q6) (101 + s) 8 q8) 47 48 (nI (s + 1))) 47 29 0
theorem mvA_sm {M : Mem} {v s : Nat} (hs : s < 40) (x y : Int32) : sm [(101, 140, none)] M (mvA M v s x y) :=
  ((((sm_rf.I (in101 hs)).I (in101 hs)).I (in101 hs)).I (in101 hs)).I (in101 hs)
theorem mvB_sm {M : Mem} {v s : Nat} (hs : s < 40) (x y q5 q7 : Int32) : sm rgM M (mvB M v s x y q5 q7) :=
  (((((mvA_sm hs x y).up (by decide)).I (in101M hs)).I (in101M hs)).I (by rfl)).I (by rfl)
theorem mvC_sm {M : Mem} {v s : Nat} (hs : s < 40) (x y q5 q7 q6 q8 : Int32) : sm rgM M (mvC M v s x y q5 q7 q6 q8) :=
  ((((mvB_sm hs x y q5 q7).I (in101M hs)).I (in101M hs)).I (by rfl)).I (by rfl)
theorem e_move40 {M : Mem} {n p v s : Nat} (h : RI M n p) (hv : v < n) (hs : s < 40) (h48 : M.1 47 48 = nI s) (x y : Int32) :
    ∃ q6 q8, fX11_move_40 (nI v) x y M = some (nI (s + 1), mvC M v s x y (nI (psN (rD M) (rP M) (rB M) p p)) (ubI (rD M) (rP M) (rB M) p p) q6 q8) ∧ q6 = nI (psN (rD (mvC M v s x y (nI (psN (rD M) (rP M) (rB M) p p)) (ubI (rD M) (rP M) (rB M) p p) q6 q8)) (rP M) (rB M) p p) ∧ q8 = ubI (rD (mvC M v s x y (nI (psN (rD M) (rP M) (rB M) p p)) (ubI (rD M) (rP M) (rB M) p p) q6 q8)) (rP M) (rB M) p p := by
  have hn := h.1
  have hv15 := inb_nI (show v < 15 by omega) (by decide)
  have hs40 := inb_nI hs (by decide)
  have e40 : (40 : Int32) = nI 40 := rfl
  have sA := mvA_sm (M := M) (v := v) hs x y
  have oA := sA.on [(50, 50, none), (53, 53, none), (56, 56, none), (59, 59, none), (62, 62, none), (65, 65, none), (68, 68, none), (71, 71, none), (73, 77, some 0)] (by decide) (by decide)
  have rA : RI (mvA M v s x y) n p := RI_on (oA.sub (by decide)) h
  have dA : rD (mvA M v s x y) = rD M := rD_on (oA.sub (by decide))
  have pA : rP (mvA M v s x y) = rP M := rP_on (oA.sub (by decide))
  have bA : rB (mvA M v s x y) = rB M := rB_on (oA.sub (by decide))
  have fA := eR_pairs rA
  rw [dA, pA, bA] at fA
  generalize hq5 : nI (psN (rD M) (rP M) (rB M) p p) = q5 at *
  have sA2 : sm [(101, 140, none)] M (sI (mvA M v s x y) (101 + s) 5 q5) := sA.I (in101 hs)
  have oA2 := sA2.on [(50, 50, none), (53, 53, none), (56, 56, none), (59, 59, none), (62, 62, none), (65, 65, none), (68, 68, none), (71, 71, none), (73, 77, some 0)] (by decide) (by decide)
  have rA2 : RI (sI (mvA M v s x y) (101 + s) 5 q5) n p := RI_on (oA2.sub (by decide)) h
  have fA2 := eR_peace rA2
  rw [rD_on (oA2.sub (by decide)), rP_on (oA2.sub (by decide)), rB_on (oA2.sub (by decide))] at fA2
  generalize hq7 : ubI (rD M) (rP M) (rB M) p p = q7 at *
  have sB := mvB_sm (M := M) (v := v) hs x y q5 q7
  have oB := sB.on [(56, 56, none), (68, 68, none), (71, 71, none), (73, 77, some 0)] (by decide) (by decide)
  have rBB : RI (mvB M v s x y q5 q7) n p := RI_on (oB.sub (by decide)) h
  have fB := eR_pairs rBB
  rw [rP_on (oB.sub (by decide)), rB_on (oB.sub (by decide))] at fB
  generalize hq6 : nI (psN (rD (mvB M v s x y q5 q7)) (rP M) (rB M) p p) = q6 at *
  have sB2 : sm [(101, 140, none)] (mvB M v s x y q5 q7) (sI (mvB M v s x y q5 q7) (101 + s) 6 q6) := sm_rf.I (in101 hs)
  have oB2 := sB2.on [(50, 50, none), (53, 53, none), (56, 56, none), (59, 59, none), (62, 62, none), (65, 65, none), (68, 68, none), (71, 71, none), (73, 77, some 0)] (by decide) (by decide)
  have rB2 : RI (sI (mvB M v s x y q5 q7) (101 + s) 6 q6) n p := RI_on (oB2.sub (by decide)) rBB
  have fB2 := eR_peace rB2
  rw [rD_on (oB2.sub (by decide)), rP_on (oB2.sub (by decide)), rB_on (oB2.sub (by decide)), rP_on (oB.sub (by decide)), rB_on (oB.sub (by decide))] at fB2
  generalize hq8 : ubI (rD (mvB M v s x y q5 q7)) (rP M) (rB M) p p = q8 at *
  have sC : sm [(47, 47, some 48), (47, 47, some 29), (101, 140, none)] (mvB M v s x y q5 q7) (mvC M v s x y q5 q7 q6 q8) := by
    have i101 : ∀ w, inS [(47, 47, some 48), (47, 47, some 29), (101, 140, none)] (101 + s) w = true := by
      intro w
      have c1 : 101 ≤ 101 + s := by omega
      have c2 : 101 + s ≤ 140 := by omega
      simp [inS, c1, c2]
    exact (((sm_rf.I (i101 6)).I (i101 8)).I (by rfl)).I (by rfl)
  have dC : rD (mvC M v s x y q5 q7 q6 q8) = rD (mvB M v s x y q5 q7) := rD_on (sC.on _ (by decide) (by decide))
  refine ⟨q6, q8, ?_, ?_, ?_⟩
  · unfold fX11_move_40
    rw [h48, if_neg (show ¬ nI s = (40 : Int32) from nI_ne (a := s) (b := 40) (by omega) (by omega) (by omega)), if_pos hs40]
    simp only [nx_eq, hv15, if_true, ix_nI (show v < 2147483648 by omega), ix_nI (show s < 2147483648 by omega), ixl0, ixl1, ixl2, ixl3, ixl4, ixl5, ixl6, ixl7, ixl8]
    have k50 : ∀ (S : Mem) w z, (sI S (101 + s) w z).1 50 v = S.1 50 v := fun S w z => sI_nk _ _ (by omega)
    have k53 : ∀ (S : Mem) w z, (sI S (101 + s) w z).1 53 v = S.1 53 v := fun S w z => sI_nk _ _ (by omega)
    have k48 : ∀ (S : Mem) w z, (sI S (101 + s) w z).1 47 48 = S.1 47 48 := fun S w z => sI_nk _ _ (by omega)
    simp only [k50, k53]
    rw [show sI (sI (sI (sI (sI M (101 + s) 0 (nI v)) (101 + s) 1 (M.1 50 v)) (101 + s) 2 (M.1 53 v)) (101 + s) 3 x) (101 + s) 4 y = mvA M v s x y from rfl, fA, Option.bind_some, fA2, Option.bind_some]
    rw [show sI (sI (sI (sI (mvA M v s x y) (101 + s) 5 q5) (101 + s) 7 q7) 50 v x) 53 v y = mvB M v s x y q5 q7 from rfl, fB, Option.bind_some, fB2, Option.bind_some]
    have kB : (mvB M v s x y q5 q7).1 47 48 = nI s := by
      unfold mvB mvA
      rw [sI_nk _ _ (by decide), sI_nk _ _ (by decide), k48, k48, k48, k48, k48, k48, k48]; exact h48
    rw [k48, k48, kB, nI_s]
    have kC : (sI (sI (sI (sI (mvB M v s x y q5 q7) (101 + s) 6 q6) (101 + s) 8 q8) 47 48 (nI (s + 1))) 47 29 0).1 47 48 = nI (s + 1) := by
      rw [sI_nj _ _ (by decide), sI_at]
    rw [kC]
    rfl
  · rw [dC]; exact hq6.symm
  · rw [dC]; exact hq8.symm
def rgK : Rg := [(1, 1, some 14), (2, 3, none), (21, 24, none), (45, 46, none)]
/-- the class's side of a move -/
theorem k_move {M : Mem} {n p v s vs : Nat} (h : DI M n p) (hk : DK M p) (hv : v < n) (hs : s < 40) (h45 : M.1 45 1 = nI s) (hvs : M.1 1 14 = nI vs) (hb : vs < 20000) {x y : Int32} (hx : isPt x y = true) (hat : ¬ (M.1 2 v = x ∧ M.1 3 v = y)) :
    ∃ E, fX10_move (nI v) x y M = some (nI (s + 1), E) ∧ E.1 2 = up (M.1 2) v x ∧ E.1 3 = up (M.1 3) v y ∧ E.1 1 14 = nI (vs + 1) ∧ E.1 21 7 = nI (vs + 1) ∧ E.1 21 8 = M.1 1 15 ∧ DC E p ∧ E.1 45 1 = nI (s + 1) ∧ (∀ k w, k < s → w < 9 → E.1 46 (k * 9 + w) = M.1 46 (k * 9 + w)) ∧ E.1 46 (s * 9 + 0) = nI v ∧ E.1 46 (s * 9 + 1) = M.1 2 v ∧ E.1 46 (s * 9 + 2) = M.1 3 v ∧ E.1 46 (s * 9 + 3) = x ∧ E.1 46 (s * 9 + 4) = y ∧ E.1 46 (s * 9 + 5) = nI (psN (cD M) (cP M) (cB M) p p) ∧ E.1 46 (s * 9 + 7) = ubI (cD M) (cP M) (cB M) p p ∧ E.1 46 (s * 9 + 6) = nI (psN (cD E) (cP E) (cB E) p p) ∧ E.1 46 (s * 9 + 8) = ubI (cD E) (cP E) (cB E) p p ∧ sm rgK M E := by
  have hn15 := h.n15
  have hv15 := inb_nI (show v < 15 by omega) (by decide)
  obtain ⟨A, a1, a2, a3, a4, a5⟩ := k_refreshC h.ci hk
  have oA := a5.on [(1, 9, none), (45, 46, none)] (by decide) (by decide)
  have cDA : cD A = cD M := cD_on (oA.sub (by decide))
  have cPA : cP A = cP M := cP_on (oA.sub (by decide))
  have cBA : cB A = cB M := cB_on (oA.sub (by decide))
  have v5 : A.1 21 5 = nI (psN (cD M) (cP M) (cB M) p p) := by rw [a2.2.2.1, cDA, cPA, cBA]
  have v7 : A.1 21 6 = ubI (cD M) (cP M) (cB M) p p := by rw [a2.2.2.2, cDA, cPA, cBA]
  have a45 : A.1 45 1 = nI s := (oA.i 45 1 rfl).trans h45
  have kO := k_open hs a45 (nI v) (A.1 2 v) (A.1 3 v) (A.1 21 5) (A.1 21 6)
  generalize hB : opM A s (nI v) (A.1 2 v) (A.1 3 v) (A.1 21 5) (A.1 21 6) = B at *
  have sB : sm [(46, 46, none)] A B := by
    rw [← hB]; unfold opM
    exact ((((sm_rf.I (inS_n 46 _)).I (inS_n 46 _)).I (inS_n 46 _)).I (inS_n 46 _)).I (inS_n 46 _)
  have oB := sB.on [(1, 9, none), (21, 24, none), (45, 45, none)] (by decide) (by decide)
  have b0 : B.1 1 0 = nI n := by rw [oB.i 1 0 rfl, oA.i 1 0 rfl]; exact h.2.1.1
  have kP := k_put b0 hn15 hv x y
  generalize hC : pM B v x y = C at *
  have sC : sm [(1, 1, some 14), (2, 3, none)] B C := by
    rw [← hC]; unfold pM
    exact ((sm_rf.I (by rfl)).I (by rfl)).I (by rfl)
  have c14 : C.1 1 14 = nI (vs + 1) := by
    rw [← hC]; unfold pM
    rw [sI_at, oB.i 1 14 rfl, oA.i 1 14 rfl, hvs, nI_s]
  have oC := sC.on [(1, 1, some 0), (1, 1, some 7), (1, 1, some 8), (1, 1, some 11), (1, 1, some 12), (1, 1, some 13), (1, 1, some 15), (4, 9, none), (21, 24, none), (45, 46, none)] (by decide) (by decide)
  have ciA : CI A n p := CI_on (oA.sub (by decide)) h.ci
  have ciB : CI B n p := CI_on (oB.sub (by decide)) ciA
  have ciC : CI C n p := CI_on (oC.sub (by decide)) ciB
  have dkC : DK C p := by
    intro e
    rw [oC.i 21 7 rfl, oB.i 21 7 rfl, a3, hvs, c14] at e
    have := (nI_eq (show vs < 2147483648 by omega) (show vs + 1 < 2147483648 by omega)).mp e
    omega
  obtain ⟨D, d1, d2, d3, d4, d5⟩ := k_refreshC ciC dkC
  have oD := d5.on [(1, 9, none), (45, 46, none)] (by decide) (by decide)
  have d45 : D.1 45 1 = nI s := by rw [oD.i 45 1 rfl, oC.i 45 1 rfl, oB.i 45 1 rfl]; exact a45
  have kL := k_close hs d45 x y (D.1 21 5) (D.1 21 6)
  generalize hE : clM D s x y (D.1 21 5) (D.1 21 6) = E at *
  have sE : sm [(46, 46, none), (45, 45, some 1)] D E := by
    rw [← hE]; unfold clM
    exact ((((sm_rf.I (by rfl)).I (by rfl)).I (by rfl)).I (by rfl)).I (by rfl)
  have oE := sE.on [(1, 9, none), (21, 24, none)] (by decide) (by decide)
  have e46 : ∀ i, D.1 46 i = B.1 46 i := fun i => by rw [oD.i 46 i rfl, oC.i 46 i rfl]
  have cl46 : ∀ i, E.1 46 i = if i = s * 9 + 8 then D.1 21 6 else if i = s * 9 + 6 then D.1 21 5 else if i = s * 9 + 4 then y else if i = s * 9 + 3 then x else B.1 46 i := by
    intro i
    rw [← e46 i, ← hE]; unfold clM
    simp only [sI]
    simp
  have op46 : ∀ i, B.1 46 i = if i = s * 9 + 7 then A.1 21 6 else if i = s * 9 + 5 then A.1 21 5 else if i = s * 9 + 2 then A.1 3 v else if i = s * 9 + 1 then A.1 2 v else if i = s * 9 + 0 then nI v else M.1 46 i := by
    intro i
    rw [← oA.i 46 i rfl, ← hB]; unfold opM
    simp only [sI]
    simp
  refine ⟨E, ?_, ?_, ?_, ?_, ?_, ?_, ?_, ?_, ?_, ?_, ?_, ?_, ?_, ?_, ?_, ?_, ?_, ?_, ?_⟩
  · unfold fX10_move fX10_move_44
    have hat2 : fX8_isAt_t M (nI v) x y = some 0 := by
      unfold fX8_isAt_t fX8_isAt_t_24 fX8_isAt_t_25
      simp only [hv15, if_true, ix_nI (show v < 2147483648 by omega)]
      by_cases e1 : M.1 2 v = x
      · have e2 : ¬ M.1 3 v = y := fun q => hat ⟨e1, q⟩
        rw [if_pos e1, if_neg e2]; rfl
      · rw [if_neg e1]; rfl
    have e1 : E.1 45 1 = nI (s + 1) := by rw [← hE]; exact sI_at ..
    rw [k_hasVoter M _ h.2.1.1 hn15, inN_nI hv (by omega), k_isPoint, hx, hat2]
    simp only [Option.bind_some, show ¬ bI true = 0 by decide, if_false, if_true, h45, lt40 hs, a1, hv15, ix_nI (show v < 2147483648 by omega), kO, kP, d1, kL, e1]
  · rw [oE.row 2 (fun _ => rfl), oD.row 2 (fun _ => rfl), ← hC]
    have : (pM B v x y).1 2 = up (B.1 2) v x := by funext j; unfold pM up; simp [sI]
    rw [this, oB.row 2 (fun _ => rfl), oA.row 2 (fun _ => rfl)]
  · rw [oE.row 3 (fun _ => rfl), oD.row 3 (fun _ => rfl), ← hC]
    have : (pM B v x y).1 3 = up (B.1 3) v y := by funext j; unfold pM up; simp [sI]
    rw [this, oB.row 3 (fun _ => rfl), oA.row 3 (fun _ => rfl)]
  · rw [oE.i 1 14 rfl, oD.i 1 14 rfl, c14]
  · rw [oE.i 21 7 rfl, d3, c14]
  · rw [oE.i 21 8 rfl, d4, oC.i 1 15 rfl, oB.i 1 15 rfl, oA.i 1 15 rfl]
  · exact DC_on (oE.sub (by decide)) d2
  · rw [← hE]; exact sI_at ..
  · intro k w hk' hw
    rw [cl46, op46]
    repeat rw [if_neg (by omega)]
  · rw [cl46, if_neg (by omega), if_neg (by omega), if_neg (by omega), if_neg (by omega), op46, if_neg (by omega), if_neg (by omega), if_neg (by omega), if_neg (by omega), if_pos rfl]
  · rw [cl46, if_neg (by omega), if_neg (by omega), if_neg (by omega), if_neg (by omega), op46, if_neg (by omega), if_neg (by omega), if_neg (by omega), if_pos rfl, oA.i 2 v rfl]
  · rw [cl46, if_neg (by omega), if_neg (by omega), if_neg (by omega), if_neg (by omega), op46, if_neg (by omega), if_neg (by omega), if_pos rfl, oA.i 3 v rfl]
  · rw [cl46, if_neg (by omega), if_neg (by omega), if_neg (by omega), if_pos rfl]
  · rw [cl46, if_neg (by omega), if_neg (by omega), if_pos rfl]
  · rw [cl46, if_neg (by omega), if_neg (by omega), if_neg (by omega), if_neg (by omega), op46, if_neg (by omega), if_pos rfl, v5]
  · rw [cl46, if_neg (by omega), if_neg (by omega), if_neg (by omega), if_neg (by omega), op46, if_pos rfl, v7]
  · rw [cl46, if_neg (by omega), if_pos rfl, d2.2.2.1, cD_on (oE.sub (by decide)), cP_on (oE.sub (by decide)), cB_on (oE.sub (by decide))]
  · rw [cl46, if_pos rfl, d2.2.2.2, cD_on (oE.sub (by decide)), cP_on (oE.sub (by decide)), cB_on (oE.sub (by decide))]
  · exact ((((a5.up (by decide)).tr (sB.up (by decide))).tr (sC.up (by decide))).tr (d5.up (by decide))).tr (sE.up (by decide))
def rgN : Rg := [(1, 1, some 14), (2, 3, none), (21, 24, none), (45, 46, none), (47, 47, some 48), (47, 47, some 29), (50, 50, none), (53, 53, none), (101, 140, none)]
theorem s_move {M : Mem} {n p vs : Nat} (h : DI M n p) (hk : DK M p) (hm : MV M n) (hvs : M.1 1 14 = nI vs) (hb : vs < 20000) (a x y : Int32) : ∃ r M1 M2, fX10_move a x y M = some (r, M1) ∧ fX11_move a x y M1 = some (r, M2) ∧ DI M2 n p ∧ MV M2 n ∧ DK M2 p ∧ (M2 = M ∨ (M2.1 1 14 = nI (vs + 1) ∧ M2.1 21 7 = nI (vs + 1) ∧ M2.1 21 8 = M.1 1 15 ∧ M2.1 47 29 = 0 ∧ sm rgN M M2)) := by
  have hn15 := h.n15
  obtain ⟨s, hs, h45, h48, h3⟩ := id hm
  have stay : fX10_move a x y M = some (-1, M) → fX11_move a x y M = some (-1, M) → ∃ r M1 M2, fX10_move a x y M = some (r, M1) ∧ fX11_move a x y M1 = some (r, M2) ∧ DI M2 n p ∧ MV M2 n ∧ DK M2 p ∧ (M2 = M ∨ (M2.1 1 14 = nI (vs + 1) ∧ M2.1 21 7 = nI (vs + 1) ∧ M2.1 21 8 = M.1 1 15 ∧ M2.1 47 29 = 0 ∧ sm rgN M M2)) :=
    fun e1 e2 => ⟨-1, M, M, e1, e2, h, hm, hk, Or.inl rfl⟩
  cases ha : inN a n with
  | false =>
    apply stay
    · unfold fX10_move; rw [k_hasVoter M _ h.2.1.1 hn15, ha]; rfl
    · unfold fX11_move; rw [e_isVoter M _ h.2.1.2.2.1 hn15, ha]; rfl
  | true =>
    obtain ⟨v, hv, rfl⟩ := inN_of ha (by omega)
    have hv15 := inb_nI (show v < 15 by omega) (by decide)
    have t1 : ¬ bI true = 0 := by decide
    cases hx : isPt x y with
    | false =>
      apply stay
      · unfold fX10_move; rw [k_hasVoter M _ h.2.1.1 hn15, ha, k_isPoint, hx]; rfl
      · unfold fX11_move; rw [e_isVoter M _ h.2.1.2.2.1 hn15, ha, e_isPoint, hx]; rfl
    | true =>
      obtain ⟨d1, d2, -⟩ := h.2.2.2.2.1.2 v (by rw [h.cn]; exact hv)
      have d1 : M.1 2 v = M.1 50 v := d1
      have d2 : M.1 3 v = M.1 53 v := d2
      have ek : fX10_move (nI v) x y M = (fX8_isAt_t M (nI v) x y).bind (fun q26 => (if q26 = 0 then (if (M.1 45 1) < (40 : Int32) then (fX0_refresh M).bind (fun q50 => (if inb (nI v) 15 = true then (if inb (nI v) 15 = true then (fX5_open (nI v) (q50.1 2 (ix (nI v))) (q50.1 3 (ix (nI v))) (q50.1 21 5) (q50.1 21 6) q50).bind (fun q90 => (fX8_put_t (nI v) x y q90).bind (fun q100 => (fX0_refresh q100).bind (fun q107 => (fX5_close x y (q107.1 21 5) (q107.1 21 6) q107).bind (fun q130 => some ((q130.1 45 1), q130))))) else none) else none)) else some (-1, M)) else some (-1, M))) := by
        unfold fX10_move fX10_move_44
        rw [k_hasVoter M _ h.2.1.1 hn15, ha, k_isPoint, hx]
        simp only [Option.bind_some, t1, if_false]
      have eAt : fX8_isAt_t M (nI v) x y = some (bI (decide (M.1 2 v = x ∧ M.1 3 v = y))) := by
        unfold fX8_isAt_t fX8_isAt_t_24 fX8_isAt_t_25
        simp only [hv15, if_true, ix_nI (show v < 2147483648 by omega)]
        by_cases e1 : M.1 2 v = x
        · by_cases e2 : M.1 3 v = y
          · simp [e1, e2, bI]
          · simp [e1, e2, bI]
        · simp [e1, bI]
      have eR : ∀ S : Mem, S.1 73 0 = nI n → fX11_move (nI v) x y S = if S.1 50 v = x ∧ S.1 53 v = y then some (-1, S) else fX11_move_40 (nI v) x y S := by
        intro S hS
        unfold fX11_move fX11_move_49
        rw [e_isVoter S _ hS hn15, ha, e_isPoint, hx]
        simp only [Option.bind_some, t1, if_false, hv15, if_true, ix_nI (show v < 2147483648 by omega)]
        by_cases e1 : S.1 50 v = x
        · by_cases e2 : S.1 53 v = y
          · simp [e1, e2]
          · simp [e1, e2]
        · simp [e1]
      by_cases hat : M.1 2 v = x ∧ M.1 3 v = y
      · apply stay
        · rw [ek, eAt]; simp [hat, bI]
        · rw [eR M h.2.1.2.2.1, if_pos ⟨d1 ▸ hat.1, d2 ▸ hat.2⟩]
      · by_cases c40 : s = 40
        · apply stay
          · rw [ek, eAt, h45, c40]
            have : ¬ nI 40 < (40 : Int32) := by decide
            simp [hat, bI, this]
          · rw [eR M h.2.1.2.2.1, if_neg (by rw [← d1, ← d2]; exact hat)]
            unfold fX11_move_40 fX11_move_49
            rw [h48, c40]
            exact if_pos rfl
        · have hs40 : s < 40 := by omega
          obtain ⟨E, k1, k2, k3, k4, k5, k6, k7, k8, k9, f0, f1, f2, f3, f4, f5, f7, f6, f8, kS⟩ := k_move h hk hv hs40 h45 hvs hb hx hat
          have oE := kS.on [(47, 47, none), (50, 50, none), (53, 53, none), (56, 56, none), (59, 59, none), (62, 62, none), (65, 65, none), (68, 68, none), (71, 71, none), (73, 77, some 0), (101, 140, none)] (by decide) (by decide)
          have rE : RI E n p := RI_on (oE.sub (by decide)) h.ri
          have e48 : E.1 47 48 = nI s := (oE.i 47 48 rfl).trans h48
          obtain ⟨q6, q8, m1, m2, m3⟩ := e_move40 rE hv hs40 e48 x y
          rw [rD_on (oE.sub (by decide)), rP_on (oE.sub (by decide)), rB_on (oE.sub (by decide))] at m1 m2 m3
          generalize hF : mvC E v s x y (nI (psN (rD M) (rP M) (rB M) p p)) (ubI (rD M) (rP M) (rB M) p p) q6 q8 = F at m1 m2 m3
          have sF : sm rgM E F := by rw [← hF]; exact mvC_sm hs40 _ _ _ _ _ _
          have oF := sF.on [(1, 9, none), (21, 24, none), (45, 46, none), (56, 56, none), (59, 59, none), (62, 62, none), (65, 65, none), (68, 68, none), (71, 71, none), (73, 77, some 0)] (by decide) (by decide)
          have oMF := ((kS.up (L1 := rgN) (by decide)).tr (sF.up (by decide))).on rgD (by decide) (by decide)
          have r50 : F.1 50 = up (M.1 50) v x := by
            funext j
            rw [← hF]; unfold mvC mvB mvA up
            have g : ∀ (S : Mem) w z, (sI S (101 + s) w z).1 50 j = S.1 50 j := fun S w z => sI_nk _ _ (by omega)
            rw [sI_nk _ _ (by decide), sI_nk _ _ (by decide), g, g, sI_nk _ _ (by decide)]
            by_cases e : j = v
            · rw [e, sI_at, if_pos rfl]
            · rw [sI_nj _ _ e, g, g, g, g, g, g, g, oE.i 50 j rfl, if_neg e]
          have r53 : F.1 53 = up (M.1 53) v y := by
            funext j
            rw [← hF]; unfold mvC mvB mvA up
            have g : ∀ (S : Mem) w z, (sI S (101 + s) w z).1 53 j = S.1 53 j := fun S w z => sI_nk _ _ (by omega)
            rw [sI_nk _ _ (by decide), sI_nk _ _ (by decide), g, g]
            by_cases e : j = v
            · rw [e, sI_at, if_pos rfl]
            · rw [sI_nj _ _ e, sI_nk _ _ (by decide), g, g, g, g, g, g, g, oE.i 53 j rfl, if_neg e]
          have dF : DI F n p := DI_put (v := v) h hx oMF ((oF.row 2 (fun _ => rfl)).trans k2) ((oF.row 3 (fun _ => rfl)).trans k3) r50 r53
          have cDF : cD F = cD E := cD_on (oF.sub (by decide))
          have cPF : cP F = cP E := cP_on (oF.sub (by decide))
          have cBF : cB F = cB E := cB_on (oF.sub (by decide))
          have row : ∀ w z, F.1 (101 + s) w = z → True := fun _ _ _ => trivial
          have rF : F.1 (101 + s) 0 = nI v ∧ F.1 (101 + s) 1 = E.1 50 v ∧ F.1 (101 + s) 2 = E.1 53 v ∧ F.1 (101 + s) 3 = x ∧ F.1 (101 + s) 4 = y ∧ F.1 (101 + s) 5 = nI (psN (rD M) (rP M) (rB M) p p) ∧ F.1 (101 + s) 6 = q6 ∧ F.1 (101 + s) 7 = ubI (rD M) (rP M) (rB M) p p ∧ F.1 (101 + s) 8 = q8 := by
            have n1 : 101 + s ≠ 47 := by omega
            have n2 : 101 + s ≠ 50 := by omega
            have n3 : 101 + s ≠ 53 := by omega
            rw [← hF]; unfold mvC mvB mvA
            refine ⟨?_, ?_, ?_, ?_, ?_, ?_, ?_, ?_, ?_⟩ <;> simp [sI, n1, n2, n3]
          have rF2 : ∀ k w, k ≠ s → F.1 (101 + k) w = E.1 (101 + k) w := by
            intro k w hks
            rw [← hF]; unfold mvC mvB mvA
            have g : ∀ (S : Mem) u z, (sI S (101 + s) u z).1 (101 + k) w = S.1 (101 + k) w := fun S u z => sI_nk _ _ (by omega)
            rw [sI_nk _ _ (by omega), sI_nk _ _ (by omega), g, g, sI_nk _ _ (by omega), sI_nk _ _ (by omega), g, g, g, g, g, g, g]
          have F48 : F.1 47 48 = nI (s + 1) := by
            rw [← hF]; unfold mvC
            rw [sI_nj _ _ (by decide), sI_at]
          have F29 : F.1 47 29 = 0 := by
            rw [← hF]; unfold mvC
            rw [sI_at]
          have e73 : E.1 73 0 = nI n := (oE.i 73 0 rfl).trans h.2.1.2.2.1
          refine ⟨nI (s + 1), E, F, k1, ?_, dF, ⟨s + 1, by omega, (oF.i 45 1 rfl).trans k8, F48, fun k hk' => ?_⟩, fun _ _ => DC_on (oF.sub (by decide)) k7, Or.inr ⟨(oF.i 1 14 rfl).trans k4, (oF.i 21 7 rfl).trans k5, (oF.i 21 8 rfl).trans k6, F29, (kS.up (by decide)).tr (sF.up (by decide))⟩⟩
          · rw [eR E e73, oE.i 50 v rfl, oE.i 53 v rfl, if_neg (by rw [← d1, ← d2]; exact hat)]
            exact m1
          · by_cases e : k = s
            · subst e
              obtain ⟨g0, g1, g2, g3, g4, g5, g6, g7, g8⟩ := rF
              refine ⟨fun w hw => ?_, ?_, ?_⟩
              · rw [oF.i 46 _ rfl]
                have hw9 : w = 0 ∨ w = 1 ∨ w = 2 ∨ w = 3 ∨ w = 4 ∨ w = 5 ∨ w = 6 ∨ w = 7 ∨ w = 8 := by omega
                rcases hw9 with rfl | rfl | rfl | rfl | rfl | rfl | rfl | rfl | rfl
                · rw [f0, g0]
                · rw [f1, g1, d1, oE.i 50 v rfl]
                · rw [f2, g2, d2, oE.i 53 v rfl]
                · rw [f3, g3]
                · rw [f4, g4]
                · rw [f5, g5, h.ps]
                · rw [f6, g6, m2, ← cDF, ← cPF, ← cBF, dF.ps, rP_on (M := M) (M1 := F) (oMF.sub (by decide)), rB_on (M := M) (M1 := F) (oMF.sub (by decide))]
                · rw [f7, g7, h.ub]
                · rw [f8, g8, m3, ← cDF, ← cPF, ← cBF, dF.ub, rP_on (M := M) (M1 := F) (oMF.sub (by decide)), rB_on (M := M) (M1 := F) (oMF.sub (by decide))]
              · rw [oF.i 46 _ rfl, f0]; exact inN_nI hv (by omega)
              · rw [oF.i 46 _ rfl, oF.i 46 _ rfl, f1, f2]
                have := h.2.2.1 v hv
                simp [isPt, this.1, this.2.1]
            · obtain ⟨g1, g2, g3⟩ := h3 k (by omega)
              have hin : ∀ w, inS [(47, 47, none), (50, 50, none), (53, 53, none), (56, 56, none), (59, 59, none), (62, 62, none), (65, 65, none), (68, 68, none), (71, 71, none), (73, 77, some 0), (101, 140, none)] (101 + k) w = true := by
                intro w
                have c1 : 101 ≤ 101 + k := by omega
                have c2 : 101 + k ≤ 140 := by omega
                simp [inS, c1, c2]
              refine ⟨fun w hw => ?_, ?_, ?_⟩
              · rw [oF.i 46 _ rfl, k9 k w (by omega) hw, rF2 k w e, oE.i (101 + k) w (hin w)]
                exact g1 w hw
              · rw [oF.i 46 _ rfl, k9 k 0 (by omega) (by omega)]; exact g2
              · rw [oF.i 46 _ rfl, oF.i 46 _ rfl, k9 k 1 (by omega) (by omega), k9 k 2 (by omega) (by omega)]; exact g3
