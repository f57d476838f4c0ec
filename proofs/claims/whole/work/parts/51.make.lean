/-! make -/
abbrev Mk : Type := Int32 × Int32 × Int32
def cst (D : Dt) (P : Pq) (v q : Nat) : Int32 := ((P.2.1 q - D.2.1 v) * (P.2.1 q - D.2.1 v) + (P.2.2 q - D.2.2.1 v) * (P.2.2 q - D.2.2.1 v)) * D.2.2.2.1 v
def mkq (D : Dt) (P : Pq) (B : Bt) (p v q : Nat) (s : Mk) : Mk := if (s.2.2 = -1 ∨ cst D P v q < s.2.2) ∧ pcN (upD D v (P.2.1 q) (P.2.2 q)) P B p = true then (nI v, nI q, cst D P v q) else s
def mkv (D : Dt) (P : Pq) (B : Bt) (p v : Nat) (s : Mk) : Mk := fd (fun q s => mkq D P B p v q s) s p
def mkD (D : Dt) (P : Pq) (B : Bt) (p n : Nat) : Mk := fd (fun v s => mkv D P B p v s) (-1, -1, -1) n
def g40 (M : Mem) : Mk := (M.1 40 6, M.1 40 7, M.1 40 8)
/-- the class's rows and votes -/
def KB (M : Mem) (n p : Nat) (D : Dt) (P : Pq) (B : Bt) : Prop := CI M n p ∧ cD M = D ∧ cP M = P ∧ cB M = B ∧ (∀ a b, a < p → b < p → M.1 22 (a * 20 + b) = nF D P a b)
theorem KB_on {M M1 : Mem} {n p : Nat} {D : Dt} {P : Pq} {B : Bt} (h : on [(1, 9, none), (22, 22, none)] M M1) (hk : KB M n p D P B) : KB M1 n p D P B := by
  obtain ⟨h1, h2, h3, h4, h5⟩ := hk
  exact ⟨CI_on (h.sub (by decide)) h1, (cD_on (h.sub (by decide))).trans h2, (cP_on (h.sub (by decide))).trans h3, (cB_on (h.sub (by decide))).trans h4, fun a b ha hb => (h.i 22 _ rfl).trans (h5 a b ha hb)⟩
theorem KB.n {M : Mem} {n p : Nat} {D : Dt} {P : Pq} {B : Bt} (h : KB M n p D P B) : D.1 = n := by
  rw [← h.2.1]
  show ix (M.1 1 0) = n
  rw [h.1.2.1.1]
  exact ix_nI (by have := h.1.1.1; omega)
def rgS : Rg := [(40, 40, some 6), (40, 40, some 7), (40, 40, some 8), (42, 42, none)]
theorem k_tryMove {M : Mem} {n p v q : Nat} {D : Dt} {P : Pq} {B : Bt} (hK : KB M n p D P B) (hv : v < n) (hq : q < p) (h41 : ∀ j, j < p → M.1 41 j = wayT D v (P.2.1 j) (P.2.2 j)) : ∃ M1, fX9_tryMove (nI v) (nI q) M = some M1 ∧ g40 M1 = mkq D P B p v q (g40 M) ∧ sm rgS M M1 := by
  have hDn := hK.n
  obtain ⟨⟨⟨hn, hp⟩, ⟨c1, c2⟩, cb, ct⟩, eD, eP, eB, hF⟩ := id hK
  have x8 : M.1 8 q = P.2.1 q := by rw [← eP]; rfl
  have x9 : M.1 9 q = P.2.2 q := by rw [← eP]; rfl
  have x2 : M.1 2 v = D.2.1 v := by rw [← eD]; rfl
  have x3 : M.1 3 v = D.2.2.1 v := by rw [← eD]; rfl
  have x4 : M.1 4 v = D.2.2.2.1 v := by rw [← eD]; rfl
  have hv15 := inb_nI (show v < 15 by omega) (by decide)
  have hq20 := inb_nI (show q < 20 by omega) (by decide)
  obtain ⟨A, a1, a2, a3⟩ := k_fw42 (M := M) c2 hp (show v < 15 by omega) (M.1 8 q) (M.1 9 q)
  have oA := a3.on [(1, 9, none), (22, 22, none), (41, 41, none), (40, 40, none)] (by decide) (by decide)
  have kA : KB A n p D P B := KB_on (oA.sub (by decide)) hK
  have wA : FW A D P p v (P.2.1 q) (P.2.2 q) := by
    refine ⟨fun j hj => (oA.i 41 j rfl).trans (h41 j hj), fun j hj => ?_⟩
    rw [a2 j hj, eD, x8, x9, ← eP]; rfl
  have pA := k_peaceBehind (M := A) (D := D) (P := P) (B := B) (v := v) (X := P.2.1 q) (Y := P.2.2 q) kA.1.2.1.2 hp (by omega) kA.1.2.2.1 kA.2.2.2.1 (by rw [kA.1.2.2.2, kA.2.1]) kA.2.2.2.2 wA
  have h80 : fX9_tryMove_80 (nI v) (nI q) (cst D P v q) M = some (if pcN (upD D v (P.2.1 q) (P.2.2 q)) P B p = true then sI (sI (sI A 40 6 (nI v)) 40 7 (nI q)) 40 8 (cst D P v q) else A) := by
    unfold fX9_tryMove_80 fX9_tryMove_139
    simp only [hq20, if_true, ix_nI (show q < 2147483648 by omega), ix_nI (show v < 2147483648 by omega), a1, Option.bind_some, hv15]
    rw [oA.i 4 v rfl, x4, pA, Option.bind_some]
    simp only [nx_eq]
    cases pcN (upD D v (P.2.1 q) (P.2.2 q)) P B p <;> simp [bI]
  have hun : fX9_tryMove (nI v) (nI q) M = if (g40 M).2.2 = -1 ∨ cst D P v q < (g40 M).2.2 then fX9_tryMove_80 (nI v) (nI q) (cst D P v q) M else some M := by
    unfold fX9_tryMove
    simp only [hq20, hv15, if_true, ix_nI (show q < 2147483648 by omega), ix_nI (show v < 2147483648 by omega), nx_eq, x8, x9, x2, x3, x4]
    show (if M.1 40 8 = -1 then fX9_tryMove_80 (nI v) (nI q) (cst D P v q) M else if cst D P v q < M.1 40 8 then fX9_tryMove_80 (nI v) (nI q) (cst D P v q) M else some M) = if M.1 40 8 = -1 ∨ cst D P v q < M.1 40 8 then _ else _
    by_cases e1 : M.1 40 8 = -1
    · rw [if_pos e1, if_pos (Or.inl e1)]
    · by_cases e2 : cst D P v q < M.1 40 8
      · rw [if_neg e1, if_pos e2, if_pos (Or.inr e2)]
      · rw [if_neg e1, if_neg e2, if_neg (by rintro (h | h); exact e1 h; exact e2 h)]
  rw [hun, h80]
  unfold mkq
  have gA : g40 A = g40 M := by unfold g40; rw [oA.i 40 6 rfl, oA.i 40 7 rfl, oA.i 40 8 rfl]
  by_cases e1 : (g40 M).2.2 = -1 ∨ cst D P v q < (g40 M).2.2
  · rw [if_pos e1]
    cases hc : pcN (upD D v (P.2.1 q) (P.2.2 q)) P B p with
    | true =>
      refine ⟨_, rfl, ?_, ?_⟩
      · rw [if_pos (show (true = true) from rfl), if_pos (show ((g40 M).2.2 = -1 ∨ cst D P v q < (g40 M).2.2) ∧ true = true from ⟨e1, rfl⟩)]
        unfold g40
        simp [sI]
      · rw [if_pos rfl]
        exact (((a3.up (by decide)).I (by rfl)).I (by rfl)).I (by rfl)
    | false =>
      refine ⟨_, rfl, ?_, ?_⟩
      · rw [if_neg (by simp), if_neg (by simp)]; exact gA
      · rw [if_neg (by simp)]; exact a3.up (by decide)
  · rw [if_neg e1, if_neg (fun q => e1 q.1)]
    exact ⟨M, rfl, rfl, sm_rf⟩
def rgS2 : Rg := [(40, 40, some 6), (40, 40, some 7), (40, 40, some 8), (41, 42, none)]
theorem k_findMove68 {M : Mem} {n p : Nat} {D : Dt} {P : Pq} {B : Bt} (hK : KB M n p D P B) (h0 : g40 M = (-1, -1, -1)) : ∃ M1, fX9_findMove_68 fX9_findMove_137 FU 0 M = some M1 ∧ g40 M1 = mkD D P B p n ∧ sm rgS2 M M1 := by
  have hn := hK.1.1.1
  have hp := hK.1.1.2
  have hh := for_ex (σ := Mem) (fun f v s => fX9_findMove_68 fX9_findMove_137 f v s) (fun s => some s) n
    (fun v s => g40 s = fd (fun v s => mkv D P B p v s) (-1, -1, -1) v ∧ sm rgS2 M s) ?_ ?_ M ⟨h0, sm_rf⟩ FU (FU_gt (by omega))
  · exact hh
  · intro f v s hv ⟨g1, g2⟩
    have os := g2.on [(1, 9, none), (22, 22, none)] (by decide) (by decide)
    have ks : KB s n p D P B := KB_on os hK
    have hv15 := inb_nI (show v < 15 by omega) (by decide)
    obtain ⟨A, a1, a2, a3⟩ := k_fw41 (M := s) ks.1.2.1.2 hp (show v < 15 by omega) (s.1 2 v) (s.1 3 v)
    have oA := a3.on [(1, 9, none), (22, 22, none), (40, 40, none)] (by decide) (by decide)
    have kA : KB A n p D P B := KB_on (oA.sub (by decide)) ks
    have gA : g40 A = g40 s := by unfold g40; rw [oA.i 40 6 rfl, oA.i 40 7 rfl, oA.i 40 8 rfl]
    have h41 : ∀ j, j < p → A.1 41 j = wayT D v (P.2.1 j) (P.2.2 j) := by
      intro j hj
      rw [a2 j hj, ks.2.1]
      unfold wayT
      rw [← ks.2.2.1, ← ks.2.1]
      rfl
    have h2 := for_ex (σ := Mem) (fun f2 q s => fX9_findMove_108 (fX9_findMove_131 (fX9_findMove_68 fX9_findMove_137 f) fX9_findMove_137) f2 (nI v) q s) (fun s => fX9_findMove_131 (fX9_findMove_68 fX9_findMove_137 f) fX9_findMove_137 (nI v) s) p
      (fun q s => g40 s = fd (fun q s => mkq D P B p v q s) (g40 A) q ∧ sm rgS A s) ?_ ?_ A ⟨rfl, sm_rf⟩ FU (FU_gt (by omega))
    · obtain ⟨M3, q1, q2, q3⟩ := h2
      refine ⟨M3, ?_, ?_, (g2.tr (a3.up (by decide))).tr (q3.up (by decide))⟩
      · show fX9_findMove_68 fX9_findMove_137 (f + 1) (nI v) s = _
        rw [fX9_findMove_68, ks.1.2.1.1, if_neg (nI_ge hv (by omega)), if_pos hv15, if_pos hv15, ix_nI (by omega), a1, Option.bind_some]
        refine Eq.trans q1 ?_
        unfold fX9_findMove_131
        simp only [nx_eq, nI_s]
      · rw [q2, gA, g1]
        rfl
    · intro f2 q s2 hq ⟨r1, r2⟩
      have o2 := r2.on [(1, 9, none), (22, 22, none), (41, 41, none)] (by decide) (by decide)
      obtain ⟨M4, t1, t2, t3⟩ := k_tryMove (M := s2) (v := v) (q := q) (KB_on (o2.sub (by decide)) kA) hv hq (fun j hj => (o2.i 41 j rfl).trans (h41 j hj))
      refine ⟨M4, ?_, ?_, r2.tr t3⟩
      · show fX9_findMove_108 (fX9_findMove_131 (fX9_findMove_68 fX9_findMove_137 f) fX9_findMove_137) (f2 + 1) (nI v) (nI q) s2 = _
        rw [fX9_findMove_108, o2.i 1 8 rfl, kA.1.2.1.2, if_neg (nI_ge hq (by omega)), t1, Option.bind_some]
        simp only [nx_eq, nI_s]
      · rw [t2, r1]
        rfl
    · intro f2 s2 ⟨r1, r2⟩
      have o2 := r2.on [(1, 9, none)] (by decide) (by decide)
      show fX9_findMove_108 (fX9_findMove_131 (fX9_findMove_68 fX9_findMove_137 f) fX9_findMove_137) (f2 + 1) (nI v) (nI p) s2 = _
      rw [fX9_findMove_108, o2.i 1 8 rfl, kA.1.2.1.2, if_pos (nI_le (Nat.le_refl _) (by omega))]
  · intro f s ⟨g1, g2⟩
    have os := g2.on [(1, 9, none)] (by decide) (by decide)
    show fX9_findMove_68 fX9_findMove_137 (f + 1) (nI n) s = _
    rw [fX9_findMove_68, os.i 1 0 rfl, hK.1.2.1.1, if_pos (nI_le (Nat.le_refl _) (by omega))]
    rfl
/-- Standing's cache -/
def SK (M : Mem) (n p : Nat) : Prop := M.1 40 9 = M.1 1 14 → M.1 40 10 = M.1 1 15 → g40 M = mkD (cD M) (cP M) (cB M) p n
theorem k_findMove {M : Mem} {n p : Nat} {D : Dt} {P : Pq} {B : Bt} (hK : KB M n p D P B) (hs : SK M n p) : ∃ M1, fX9_findMove M = some M1 ∧ g40 M1 = mkD D P B p n ∧ M1.1 40 9 = M.1 1 14 ∧ M1.1 40 10 = M.1 1 15 ∧ sm [(40, 42, none)] M M1 := by
  have h29 : ∃ M1, fX9_findMove_29 M = some M1 ∧ g40 M1 = mkD D P B p n ∧ M1.1 40 9 = M.1 1 14 ∧ M1.1 40 10 = M.1 1 15 ∧ sm [(40, 42, none)] M M1 := by
    unfold fX9_findMove_29
    simp only [nx_eq]
    rw [sI_nk M (k := 40) (a := 1) _ (by decide)]
    generalize hM0 : sI (sI (sI (sI (sI M 40 9 (M.1 1 14)) 40 10 (M.1 1 15)) 40 6 (-1)) 40 7 (-1)) 40 8 (-1) = M0
    have s0 : sm [(40, 42, none)] M M0 := by
      rw [← hM0]; exact ((((sm_rf.I (by rfl)).I (by rfl)).I (by rfl)).I (by rfl)).I (by rfl)
    have k0 : KB M0 n p D P B := KB_on (s0.on _ (by decide) (by decide)) hK
    obtain ⟨M1, a1, a2, a3⟩ := k_findMove68 k0 (by rw [← hM0]; unfold g40; simp [sI])
    have o := a3.on [(40, 40, some 9), (40, 40, some 10)] (by decide) (by decide)
    refine ⟨M1, a1, a2, ?_, ?_, s0.tr (a3.up (by decide))⟩
    · rw [o.i 40 9 rfl, ← hM0]; simp [sI]
    · rw [o.i 40 10 rfl, ← hM0]; simp [sI]
  unfold fX9_findMove
  by_cases e1 : M.1 40 9 = M.1 1 14
  · by_cases e2 : M.1 40 10 = M.1 1 15
    · rw [if_pos e1, if_pos e2]
      refine ⟨M, rfl, ?_, e1, e2, sm_rf⟩
      rw [hs e1 e2, hK.2.1, hK.2.2.1, hK.2.2.2.1]
    · rw [if_pos e1, if_neg e2]; exact h29
  · rw [if_neg e1]; exact h29
/-! the reference -/
theorem mv_back {M : Mem} {v : Nat} {X Y : Int32} (hX : M.1 50 v = X) (hY : M.1 53 v = Y) (a b : Int32) : sI (sI (sI (sI M 50 v a) 53 v b) 50 v X) 53 v Y = M := by
  apply Prod.ext
  · funext k j
    unfold sI
    simp only
    by_cases e1 : k = 53 ∧ j = v
    · rw [if_pos e1, e1.1, e1.2, hY]
    · rw [if_neg e1]
      by_cases e2 : k = 50 ∧ j = v
      · rw [if_pos e2, e2.1, e2.2, hX]
      · rw [if_neg e2, if_neg e1, if_neg e2]
  · rfl
theorem eqD_up {D D1 : Dt} (h : eqD D D1) (v : Nat) (x y : Int32) : eqD (upD D v x y) (upD D1 v x y) := by
  refine ⟨h.1, fun u hu => ?_⟩
  obtain ⟨h1, h2, h3⟩ := h.2 u hu
  refine ⟨?_, ?_, h3⟩
  · show up D.2.1 v x u = up D1.2.1 v x u
    unfold up; split
    · rfl
    · exact h1
  · show up D.2.2.1 v y u = up D1.2.2.1 v y u
    unfold up; split
    · rfl
    · exact h2
theorem pc_eq {D D1 : Dt} {P P1 : Pq} {B B1 : Bt} {p : Nat} (hD : eqD D D1) (hB : eqB B B1) (hP : ∀ q, q < p → P1.2.1 q = P.2.1 q ∧ P1.2.2 q = P.2.2 q) : pcN D P B p = pcN D1 P1 B1 p := by
  unfold pcN
  apply anyN_congr
  intro i hi
  rw [ct_eq hD hB hP hi]
theorem cst_rng {M : Mem} {n p v q : Nat} (h : DI M n p) (hv : v < n) (hq : q < p) : 0 ≤ (cst (cD M) (cP M) v q).toInt := by
  obtain ⟨h1, h2, ⟨h3, h4⟩, -⟩ := h.2.2.1 v hv
  obtain ⟨h5, h6⟩ := h.2.2.2.1 q hq
  have i1 := inN_i.mp h1
  have i2 := inN_i.mp h2
  have i5 := inN_i.mp h5
  have i6 := inN_i.mp h6
  show 0 ≤ (((M.1 8 q - M.1 2 v) * (M.1 8 q - M.1 2 v) + (M.1 9 q - M.1 3 v) * (M.1 9 q - M.1 3 v)) * M.1 4 v).toInt
  have e1 : (M.1 8 q - M.1 2 v).toInt = (M.1 8 q).toInt - (M.1 2 v).toInt := fb_subI (by omega) (by omega)
  have e2 : (M.1 9 q - M.1 3 v).toInt = (M.1 9 q).toInt - (M.1 3 v).toInt := fb_subI (by omega) (by omega)
  have sq : ∀ z : Int, -99 ≤ z → z ≤ 99 → 0 ≤ z * z ∧ z * z ≤ 9801 := by
    intro z z1 z2
    have : z * z = (z.natAbs : Int) * z.natAbs := (Int.natAbs_mul_self' z).symm
    have hz : z.natAbs ≤ 99 := by omega
    have := Nat.mul_le_mul hz hz
    have e : ((z.natAbs * z.natAbs : Nat) : Int) = z * z := by rw [Int.natCast_mul]; exact Int.natAbs_mul_self' z
    omega
  obtain ⟨s1, s2⟩ := sq ((M.1 8 q).toInt - (M.1 2 v).toInt) (by omega) (by omega)
  obtain ⟨s3, s4⟩ := sq ((M.1 9 q).toInt - (M.1 3 v).toInt) (by omega) (by omega)
  have m1 : ((M.1 8 q - M.1 2 v) * (M.1 8 q - M.1 2 v)).toInt = ((M.1 8 q).toInt - (M.1 2 v).toInt) * ((M.1 8 q).toInt - (M.1 2 v).toInt) := by
    rw [fb_mulI (by rw [e1]; omega) (by rw [e1]; omega), e1]
  have m2 : ((M.1 9 q - M.1 3 v) * (M.1 9 q - M.1 3 v)).toInt = ((M.1 9 q).toInt - (M.1 3 v).toInt) * ((M.1 9 q).toInt - (M.1 3 v).toInt) := by
    rw [fb_mulI (by rw [e2]; omega) (by rw [e2]; omega), e2]
  generalize ((M.1 8 q).toInt - (M.1 2 v).toInt) * ((M.1 8 q).toInt - (M.1 2 v).toInt) = u at *
  generalize ((M.1 9 q).toInt - (M.1 3 v).toInt) * ((M.1 9 q).toInt - (M.1 3 v).toInt) = w at *
  have ma : ((M.1 8 q - M.1 2 v) * (M.1 8 q - M.1 2 v) + (M.1 9 q - M.1 3 v) * (M.1 9 q - M.1 3 v)).toInt = u + w := by
    rw [fb_addI (by rw [m1, m2]; omega) (by rw [m1, m2]; omega), m1, m2]
  have b1 := Int.mul_nonneg (show 0 ≤ u + w by omega) (show 0 ≤ (M.1 4 v).toInt by omega)
  have b2 : (u + w) * (M.1 4 v).toInt ≤ 19602 * 9 := Int.mul_le_mul (by omega) (by omega) (by omega) (by omega)
  rw [fb_mulI (by rw [ma]; omega) (by rw [ma]; omega), ma]
  exact b1
def MkR (s t : Mk) : Prop := t.1 = s.1 ∧ t.2.1 = s.2.1 ∧ ((s.1 = -1 ∧ s.2.1 = -1 ∧ s.2.2 = -1) ∨ (s.1 ≠ -1 ∧ s.2.2 ≠ -1 ∧ t.2.2 = s.2.2))
theorem MkR_step {M : Mem} {n p v q : Nat} (h : DI M n p) (hv : v < n) (hq : q < p) {s t : Mk} (hr : MkR s t) (c : Bool) (hc : c = pcN (upD (cD M) v ((cP M).2.1 q) ((cP M).2.2 q)) (cP M) (cB M) p) : MkR (mkq (cD M) (cP M) (cB M) p v q s) (if (t.1 = -1 ∨ cst (cD M) (cP M) v q < t.2.2) ∧ c = true then (nI v, nI q, cst (cD M) (cP M) v q) else t) := by
  have hcost := cst_rng h hv hq
  have hn := h.n15
  have e : (t.1 = -1 ∨ cst (cD M) (cP M) v q < t.2.2) ↔ (s.2.2 = -1 ∨ cst (cD M) (cP M) v q < s.2.2) := by
    obtain ⟨h1, h2, h3⟩ := hr
    rcases h3 with ⟨a1, a2, a3⟩ | ⟨a1, a2, a3⟩
    · rw [h1, a1, a3]; simp
    · rw [h1, a3]; simp [a1, a2]
  unfold mkq
  rw [← hc]
  simp only [e]
  by_cases c1 : (s.2.2 = -1 ∨ cst (cD M) (cP M) v q < s.2.2) ∧ c = true
  · rw [if_pos c1, if_pos c1]
    refine ⟨rfl, rfl, Or.inr ⟨nI_n1 (show v < 1000 by omega), ?_, rfl⟩⟩
    intro q
    have := (fa_eq _ _).mp q
    have e1 : (-1 : Int32).toInt = -1 := rfl
    rw [e1] at this
    have this : (cst (cD M) (cP M) v _).toInt = -1 := this
    omega
  · rw [if_neg c1, if_neg c1]; exact hr
theorem e_make24 {M : Mem} {n p : Nat} (h : DI M n p) (a : Int32) : ∃ t, fX11_make_24 fX11_make_221 FU a (-1) (-1) 0 0 M = fX11_make_221 a t.1 t.2.1 t.2.2 M ∧ MkR (mkD (cD M) (cP M) (cB M) p n) t := by
  have hn := h.n15
  have hp := h.p20
  have hri := h.ri
  obtain ⟨-, ⟨n1, n2, n3, n4⟩, -, -, hD, hP, ⟨hB, -⟩, -⟩ := id h
  have hh := for_ex (σ := Mk) (fun f v s => fX11_make_24 fX11_make_221 f a s.1 s.2.1 s.2.2 v M) (fun s => fX11_make_221 a s.1 s.2.1 s.2.2 M) n
    (fun v t => MkR (fd (fun v s => mkv (cD M) (cP M) (cB M) p v s) (-1, -1, -1) v) t) ?_ ?_ (-1, -1, 0) ⟨rfl, rfl, Or.inl ⟨rfl, rfl, rfl⟩⟩ FU (FU_gt (by omega))
  · exact hh
  · rintro f v ⟨x2, x3, x4⟩ hv hr
    have hv15 := inb_nI (show v < 15 by omega) (by decide)
    obtain ⟨d1, d2, d3, -⟩ := hD.2 v (by rw [h.cn]; exact hv)
    have d1 : M.1 2 v = M.1 50 v := d1
    have d2 : M.1 3 v = M.1 53 v := d2
    have d3 : M.1 4 v = M.1 56 v := d3
    generalize hK : fX11_make_215 (fX11_make_24 fX11_make_221 f) fX11_make_221 = K
    have h2 := for_ex (σ := Mk) (fun f2 q s => fX11_make_58 K f2 a s.1 s.2.1 s.2.2 (nI v) (M.1 50 v) (M.1 53 v) q M) (fun s => K a s.1 s.2.1 s.2.2 (nI v) M) p
      (fun q t => MkR (fd (fun q s => mkq (cD M) (cP M) (cB M) p v q s) (fd (fun v s => mkv (cD M) (cP M) (cB M) p v s) (-1, -1, -1) v) q) t) ?_ ?_ (x2, x3, x4) hr FU (FU_gt (by omega))
    · obtain ⟨t, q1, q2⟩ := h2
      refine ⟨t, ?_, q2⟩
      show fX11_make_24 fX11_make_221 (f + 1) a x2 x3 x4 (nI v) M = _
      rw [fX11_make_24, e_voters, Option.bind_some, n3, if_neg (nI_ge hv (by omega)), if_pos hv15, nx_eq, if_pos hv15, nx_eq, ix_nI (by omega), hK]
      refine Eq.trans q1 ?_
      rw [← hK]
      unfold fX11_make_215
      simp only [nx_eq, nI_s]
    · rintro f2 q ⟨y2, y3, y4⟩ hq hr2
      have hq20 := inb_nI (show q < 20 by omega) (by decide)
      obtain ⟨p1, p2⟩ := hP q hq
      have ecst : ((M.1 68 q - M.1 50 v) * (M.1 68 q - M.1 50 v) + (M.1 71 q - M.1 53 v) * (M.1 71 q - M.1 53 v)) * M.1 56 v = cst (cD M) (cP M) v q := by
        rw [p1, p2, ← d1, ← d2, ← d3]; rfl
      generalize hS : sI (sI M 50 v (M.1 68 q)) 53 v (M.1 71 q) = S
      have sS : sm [(50, 50, none), (53, 53, none)] M S := by rw [← hS]; exact (sm_rf.I (by rfl)).I (by rfl)
      have oS := sS.on [(56, 56, none), (59, 59, none), (62, 62, none), (65, 65, none), (68, 68, none), (71, 71, none), (73, 77, some 0)] (by decide) (by decide)
      have rS : RI S n p := RI_on (oS.sub (by decide)) hri
      have eDS : rD S = upD (rD M) v ((cP M).2.1 q) ((cP M).2.2 q) := by
        have r50 : S.1 50 = up (M.1 50) v (M.1 8 q) := by rw [← hS, ← p1]; funext j; unfold up; simp [sI]
        have r53 : S.1 53 = up (M.1 53) v (M.1 9 q) := by rw [← hS, ← p2]; funext j; unfold up; simp [sI]
        unfold rD upD
        rw [r50, r53, oS.i 73 0 rfl, oS.row 56 (fun _ => rfl), oS.row 59 (fun _ => rfl), oS.row 62 (fun _ => rfl), oS.row 65 (fun _ => rfl)]
        rfl
      have fS := eR_peace rS
      rw [eDS, rP_on (oS.sub (by decide)), rB_on (oS.sub (by decide))] at fS
      have epc : pcN (upD (cD M) v ((cP M).2.1 q) ((cP M).2.2 q)) (cP M) (cB M) p = pcN (upD (rD M) v ((cP M).2.1 q) ((cP M).2.2 q)) (rP M) (rB M) p := pc_eq (eqD_up hD v _ _) hB hP
      have hcond := ub_pc (D := upD (rD M) v ((cP M).2.1 q) ((cP M).2.2 q)) (P := rP M) (B := rB M) hp
      rw [← epc] at hcond
      have h187 : ∀ z2 z3 z4, fX11_make_187 (fX11_make_58 K f2) K a z2 z3 z4 (nI v) (M.1 50 v) (M.1 53 v) (nI q) S = fX11_make_58 K f2 a z2 z3 z4 (nI v) (M.1 50 v) (M.1 53 v) (nI (q + 1)) M := by
        intro z2 z3 z4
        unfold fX11_make_187 fX11_make_209
        simp only [hv15, if_true, ix_nI (show v < 2147483648 by omega), nx_eq, nI_s]
        rw [← hS, mv_back rfl rfl]
      have h133 : fX11_make_133 (fX11_make_58 K f2) K a y2 y3 y4 (nI v) (M.1 50 v) (M.1 53 v) (nI q) (cst (cD M) (cP M) v q) M = if pcN (upD (cD M) v ((cP M).2.1 q) ((cP M).2.2 q)) (cP M) (cB M) p = true then fX11_make_58 K f2 a (nI v) (nI q) (cst (cD M) (cP M) v q) (nI v) (M.1 50 v) (M.1 53 v) (nI (q + 1)) M else fX11_make_58 K f2 a y2 y3 y4 (nI v) (M.1 50 v) (M.1 53 v) (nI (q + 1)) M := by
        unfold fX11_make_133
        simp only [hq20, hv15, if_true, ix_nI (show q < 2147483648 by omega), ix_nI (show v < 2147483648 by omega), nx_eq]
        rw [sI_nk M (k := 50) (a := 71) _ (by decide), hS, fS, Option.bind_some, h187, h187]
        simp only [hcond]
        cases pcN (upD (cD M) v ((cP M).2.1 q) ((cP M).2.2 q)) (cP M) (cB M) p <;> simp
      refine ⟨if (y2 = -1 ∨ cst (cD M) (cP M) v q < y4) ∧ pcN (upD (cD M) v ((cP M).2.1 q) ((cP M).2.2 q)) (cP M) (cB M) p = true then (nI v, nI q, cst (cD M) (cP M) v q) else (y2, y3, y4), ?_, MkR_step h hv hq hr2 _ rfl⟩
      show fX11_make_58 K (f2 + 1) a y2 y3 y4 (nI v) (M.1 50 v) (M.1 53 v) (nI q) M = _
      rw [fX11_make_58, e_places, Option.bind_some, n4, if_neg (nI_ge hq (by omega)), if_pos hq20, nx_eq, if_pos hq20, nx_eq, if_pos hv15, nx_eq, ix_nI (by omega), ix_nI (by omega), ecst, h133]
      unfold fX11_make_209
      simp only [nx_eq, nI_s]
      by_cases e1 : y2 = -1
      · rw [if_pos e1]
        cases pcN (upD (cD M) v ((cP M).2.1 q) ((cP M).2.2 q)) (cP M) (cB M) p <;> simp [e1]
      · rw [if_neg e1]
        by_cases e2 : cst (cD M) (cP M) v q < y4
        · rw [if_pos e2]
          cases pcN (upD (cD M) v ((cP M).2.1 q) ((cP M).2.2 q)) (cP M) (cB M) p <;> simp [e1, e2]
        · rw [if_neg e2]
          simp [e1, e2]
    · rintro f2 ⟨y2, y3, y4⟩ -
      show fX11_make_58 K (f2 + 1) a y2 y3 y4 (nI v) (M.1 50 v) (M.1 53 v) (nI p) M = _
      rw [fX11_make_58, e_places, Option.bind_some, n4, if_pos (nI_le (Nat.le_refl _) (by omega))]
  · rintro f ⟨x2, x3, x4⟩ -
    show fX11_make_24 fX11_make_221 (f + 1) a x2 x3 x4 (nI n) M = _
    rw [fX11_make_24, e_voters, Option.bind_some, n3, if_pos (nI_le (Nat.le_refl _) (by omega))]
