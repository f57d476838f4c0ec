/-! what holds before every call -/
def CN (M : Mem) (b : Bool) (vs ps : Nat) : Prop := (M.1 1 14 = nI vs ∧ M.1 1 15 = nI ps) ∧ ((M.1 21 7).toInt ≤ vs ∧ (M.1 26 5).toInt ≤ vs ∧ (M.1 30 7).toInt ≤ vs ∧ (M.1 35 6).toInt ≤ vs ∧ (M.1 36 8).toInt ≤ vs ∧ (M.1 40 9).toInt ≤ vs) ∧ ((M.1 21 8).toInt ≤ ps ∧ (M.1 36 9).toInt ≤ ps ∧ (M.1 40 10).toInt ≤ ps) ∧ (b = true → (M.1 141 10).toInt ≤ vs)
def IV (t : Nat) (b : Bool) (M : Mem) (n p vs ps : Nat) : Prop := (vs ≤ 15 * t ∧ ps ≤ 20 * t) ∧ CN M b vs ps ∧ DI M n p ∧ TX M ∧ MV M n ∧ DK M p ∧ SK M n p ∧ LB M ∧ RK M ∧ OK M p ∧ (b = true → FK M)
def INV (t : Nat) (b : Bool) (M : Mem) : Prop := ∃ n p vs ps, IV t b M n p vs ps
def sp1 (M M1 : Mem) (k j : Nat) : Prop := M1.1 k j = M.1 k j ∨ M1.1 k j = M.1 1 15
theorem st_le {M M1 : Mem} {k j vs : Nat} (h : st1 M M1 k j) (h1 : (M.1 k j).toInt ≤ vs) (h2 : M.1 1 14 = nI vs) (hv : vs < 2147483648) : (M1.1 k j).toInt ≤ vs := by
  rcases h with h | h
  · rw [h]; exact h1
  · rw [h, h2, nI_toInt hv]; exact Int.le_refl _
theorem sp_le {M M1 : Mem} {k j ps : Nat} (h : sp1 M M1 k j) (h1 : (M.1 k j).toInt ≤ ps) (h2 : M.1 1 15 = nI ps) (hv : ps < 2147483648) : (M1.1 k j).toInt ≤ ps := by
  rcases h with h | h
  · rw [h]; exact h1
  · rw [h, h2, nI_toInt hv]; exact Int.le_refl _
theorem now_st {M M1 : Mem} {k a b : Nat} (h : now M M1 k a b) : st1 M M1 k a ∧ sp1 M M1 k b := by
  rcases h with ⟨h1, h2⟩ | ⟨h1, h2⟩
  · exact ⟨Or.inl h1, Or.inl h2⟩
  · exact ⟨Or.inr h1, Or.inr h2⟩
theorem ne_st {x : Int32} {v w : Nat} (h : x.toInt ≤ v) (hw : v < w) (hb : w < 2147483648) : ¬ x = nI w := by
  intro e
  rw [e, nI_toInt hb] at h
  omega
def rgC : Rg := [(21, 44, none), (47, 47, some 27), (47, 47, some 28), (47, 47, some 29), (47, 47, some 33), (47, 47, some 34), (47, 47, some 37), (47, 47, some 38), (79, 99, none), (141, 146, none)]
/-- a call that changes caches alone -/
theorem IV_up {t : Nat} {b b2 : Bool} {M M2 : Mem} {n p vs ps : Nat} (ht : t < 512) (h : IV t b M n p vs ps) (hs : sm rgC M M2) (kD : DK M2 p) (kS : SK M2 n p) (kL : LB M2) (kR : RK M2) (kO : OK M2 p) (kF : b2 = true → FK M2) (k1 : st1 M M2 21 7) (k2 : st1 M M2 26 5) (k3 : st1 M M2 30 7) (k4 : st1 M M2 35 6) (k5 : st1 M M2 36 8) (k6 : st1 M M2 40 9) (l1 : sp1 M M2 21 8) (l2 : sp1 M M2 36 9) (l3 : sp1 M M2 40 10) (kb : b2 = true → (b = true ∧ st1 M M2 141 10) ∨ M2.1 141 10 = M.1 1 14) : INV (t + 1) b2 M2 := by
  obtain ⟨⟨hv, hp⟩, ⟨⟨c1, c2⟩, ⟨c3, c4, c5, c6, c7, c8⟩, ⟨c9, c10, c11⟩, c12⟩, d1, d2, d3, -⟩ := h
  have o := hs.on [(1, 1, none)] (by decide) (by decide)
  refine ⟨n, p, vs, ps, ⟨by omega, by omega⟩, ⟨⟨(o.i 1 14 rfl).trans c1, (o.i 1 15 rfl).trans c2⟩, ⟨st_le k1 c3 c1 (by omega), st_le k2 c4 c1 (by omega), st_le k3 c5 c1 (by omega), st_le k4 c6 c1 (by omega), st_le k5 c7 c1 (by omega), st_le k6 c8 c1 (by omega)⟩, ⟨sp_le l1 c9 c2 (by omega), sp_le l2 c10 c2 (by omega), sp_le l3 c11 c2 (by omega)⟩, fun w => ?_⟩, DI_onF (hs.on _ (by decide) (by decide)) d1, TX_on (hs.on _ (by decide) (by decide)) d2, MV_on (hs.on _ (by decide) (by decide)) d3, kD, kS, kL, kR, kO, kF⟩
  rcases kb w with ⟨w1, w2⟩ | w
  · exact st_le w2 (c12 w1) c1 (by omega)
  · rw [w, c1, nI_toInt (by omega)]; exact Int.le_refl _
theorem LB_on {M M1 : Mem} (h : on [(1, 7, none), (26, 34, none), (47, 47, some 27), (47, 47, some 28), (47, 47, some 29), (79, 84, none)] M M1) (hl : LB M) : LB M1 :=
  ⟨LK_on (h.sub (by decide)) hl.1, MK_on (h.sub (by decide)) hl.2.1, KR_on (h.sub (by decide)) hl.2.2⟩
/-- a call that changes neither data nor caches -/
def rgA : Rg := [(10, 20, none), (47, 47, some 1), (47, 47, some 2), (47, 47, some 3), (47, 47, some 4), (47, 47, some 5), (47, 47, some 19), (47, 47, some 20), (47, 47, some 21), (47, 47, some 22), (47, 47, some 44), (47, 47, some 45), (47, 47, some 46), (48, 48, none), (51, 51, none), (54, 54, none), (57, 57, none), (60, 60, none), (63, 63, none), (66, 66, none), (69, 69, none), (72, 72, none), (73, 77, some 1)]
theorem IV_id {t : Nat} {b : Bool} {M M2 : Mem} {n p vs ps : Nat} (h : IV t b M n p vs ps) (hs : sm rgA M M2) (hT : TX M2) : INV (t + 1) b M2 := by
  obtain ⟨⟨hv, hp⟩, ⟨⟨c1, c2⟩, ⟨c3, c4, c5, c6, c7, c8⟩, ⟨c9, c10, c11⟩, c12⟩, d1, d2, d3, d4, d5, d6, d7, d8, d9⟩ := h
  have o := hs.on [(1, 1, none), (21, 40, none), (141, 141, none)] (by decide) (by decide)
  refine ⟨n, p, vs, ps, ⟨by omega, by omega⟩, ⟨⟨(o.i 1 14 rfl).trans c1, (o.i 1 15 rfl).trans c2⟩, ⟨?_, ?_, ?_, ?_, ?_, ?_⟩, ⟨?_, ?_, ?_⟩, ?_⟩, DI_onF (hs.on _ (by decide) (by decide)) d1, hT, MV_on (hs.on _ (by decide) (by decide)) d3, DK_on (hs.on _ (by decide) (by decide)) d4, SK_on (hs.on _ (by decide) (by decide)) d5, LB_on (hs.on _ (by decide) (by decide)) d6, RK_on (hs.on _ (by decide) (by decide)) d7, OK_on (hs.on _ (by decide) (by decide)) d8, fun w => FK_on (hs.on _ (by decide) (by decide)) (d9 w)⟩
  · rw [o.i 21 7 rfl]; exact c3
  · rw [o.i 26 5 rfl]; exact c4
  · rw [o.i 30 7 rfl]; exact c5
  · rw [o.i 35 6 rfl]; exact c6
  · rw [o.i 36 8 rfl]; exact c7
  · rw [o.i 40 9 rfl]; exact c8
  · rw [o.i 21 8 rfl]; exact c9
  · rw [o.i 36 9 rfl]; exact c10
  · rw [o.i 40 10 rfl]; exact c11
  · rw [o.i 141 10 rfl]; exact c12
theorem IV_st {t : Nat} {b : Bool} {M : Mem} {n p vs ps : Nat} (h : IV t b M n p vs ps) : INV (t + 1) b M := IV_id h sm_rf h.2.2.2.1
/-- the Duels' cache alone -/
theorem IV_dr {t : Nat} {b : Bool} {M M2 : Mem} {n p vs ps : Nat} (ht : t < 512) (h : IV t b M n p vs ps) (hs : sm [(21, 25, none), (41, 44, none), (87, 87, none), (98, 99, none)] M M2) (kD : DK M2 p) (hn : now M M2 21 7 8) : INV (t + 1) b M2 := by
  obtain ⟨-, -, d1, d2, d3, d4, d5, d6, d7, d8, d9⟩ := id h
  have o := hs.on [(26, 40, none), (141, 141, none)] (by decide) (by decide)
  exact IV_up ht h (hs.up (by decide)) kD (SK_on (hs.on _ (by decide) (by decide)) d5) (LB_on (hs.on _ (by decide) (by decide)) d6) (RK_on (hs.on _ (by decide) (by decide)) d7) (OK_on (hs.on _ (by decide) (by decide)) d8) (fun w => FK_on (hs.on _ (by decide) (by decide)) (d9 w)) (now_st hn).1 (Or.inl (o.i 26 5 rfl)) (Or.inl (o.i 30 7 rfl)) (Or.inl (o.i 35 6 rfl)) (Or.inl (o.i 36 8 rfl)) (Or.inl (o.i 40 9 rfl)) (now_st hn).2 (Or.inl (o.i 36 9 rfl)) (Or.inl (o.i 40 10 rfl)) (fun w => Or.inl ⟨w, Or.inl (o.i 141 10 rfl)⟩)
/-- lines, middles -/
theorem IV_lb {t : Nat} {b : Bool} {M M2 : Mem} {n p vs ps : Nat} (ht : t < 512) (h : IV t b M n p vs ps) (hs : sm rgLM M M2) (kL : LB M2) (k2 : st1 M M2 26 5) (k3 : st1 M M2 30 7) : INV (t + 1) b M2 := by
  obtain ⟨-, -, d1, d2, d3, d4, d5, d6, d7, d8, d9⟩ := id h
  have o := hs.on [(21, 25, none), (35, 40, none), (141, 141, none)] (by decide) (by decide)
  exact IV_up ht h (hs.up (by decide)) (DK_on (hs.on _ (by decide) (by decide)) d4) (SK_on (hs.on _ (by decide) (by decide)) d5) kL (RK_on (hs.on _ (by decide) (by decide)) d7) (OK_on (hs.on _ (by decide) (by decide)) d8) (fun w => FK_on (hs.on _ (by decide) (by decide)) (d9 w)) (Or.inl (o.i 21 7 rfl)) k2 k3 (Or.inl (o.i 35 6 rfl)) (Or.inl (o.i 36 8 rfl)) (Or.inl (o.i 40 9 rfl)) (Or.inl (o.i 21 8 rfl)) (Or.inl (o.i 36 9 rfl)) (Or.inl (o.i 40 10 rfl)) (fun w => Or.inl ⟨w, Or.inl (o.i 141 10 rfl)⟩)
theorem IV_rd {t : Nat} {b : Bool} {M M2 : Mem} {n p vs ps : Nat} (ht : t < 512) (h : IV t b M n p vs ps) (hs : sm rgRd M M2) (kL : LB M2) (kR : RK M2) (k2 : st1 M M2 26 5) (k4 : st1 M M2 35 6) : INV (t + 1) b M2 := by
  obtain ⟨-, -, d1, d2, d3, d4, d5, d6, d7, d8, d9⟩ := id h
  have o := hs.on [(21, 25, none), (30, 34, none), (36, 40, none), (141, 141, none)] (by decide) (by decide)
  exact IV_up ht h (hs.up (by decide)) (DK_on (hs.on _ (by decide) (by decide)) d4) (SK_on (hs.on _ (by decide) (by decide)) d5) kL kR (OK_on (hs.on _ (by decide) (by decide)) d8) (fun w => FK_on (hs.on _ (by decide) (by decide)) (d9 w)) (Or.inl (o.i 21 7 rfl)) k2 (Or.inl (o.i 30 7 rfl)) k4 (Or.inl (o.i 36 8 rfl)) (Or.inl (o.i 40 9 rfl)) (Or.inl (o.i 21 8 rfl)) (Or.inl (o.i 36 9 rfl)) (Or.inl (o.i 40 10 rfl)) (fun w => Or.inl ⟨w, Or.inl (o.i 141 10 rfl)⟩)
theorem IV_ol {t : Nat} {b : Bool} {M M2 : Mem} {n p vs ps : Nat} (ht : t < 512) (h : IV t b M n p vs ps) (hs : sm rgOl M M2) (kD : DK M2 p) (kO : OK M2 p) (hn : now M M2 21 7 8) (hm : now M M2 36 8 9) : INV (t + 1) b M2 := by
  obtain ⟨-, -, d1, d2, d3, d4, d5, d6, d7, d8, d9⟩ := id h
  have o := hs.on [(26, 35, none), (40, 40, none), (141, 141, none)] (by decide) (by decide)
  exact IV_up ht h (hs.up (by decide)) kD (SK_on (hs.on _ (by decide) (by decide)) d5) (LB_on (hs.on _ (by decide) (by decide)) d6) (RK_on (hs.on _ (by decide) (by decide)) d7) kO (fun w => FK_on (hs.on _ (by decide) (by decide)) (d9 w)) (now_st hn).1 (Or.inl (o.i 26 5 rfl)) (Or.inl (o.i 30 7 rfl)) (Or.inl (o.i 35 6 rfl)) (now_st hm).1 (Or.inl (o.i 40 9 rfl)) (now_st hn).2 (now_st hm).2 (Or.inl (o.i 40 10 rfl)) (fun w => Or.inl ⟨w, Or.inl (o.i 141 10 rfl)⟩)
theorem IV_mk {t : Nat} {b : Bool} {M M2 : Mem} {n p vs ps : Nat} (ht : t < 512) (h : IV t b M n p vs ps) (hs : sm [(21, 25, none), (40, 42, none)] M M2) (kD : DK M2 p) (kS : SK M2 n p) (hn : now M M2 21 7 8) (hm : now M M2 40 9 10) : INV (t + 1) b M2 := by
  obtain ⟨-, -, d1, d2, d3, d4, d5, d6, d7, d8, d9⟩ := id h
  have o := hs.on [(26, 39, none), (141, 141, none)] (by decide) (by decide)
  exact IV_up ht h (hs.up (by decide)) kD kS (LB_on (hs.on _ (by decide) (by decide)) d6) (RK_on (hs.on _ (by decide) (by decide)) d7) (OK_on (hs.on _ (by decide) (by decide)) d8) (fun w => FK_on (hs.on _ (by decide) (by decide)) (d9 w)) (now_st hn).1 (Or.inl (o.i 26 5 rfl)) (Or.inl (o.i 30 7 rfl)) (Or.inl (o.i 35 6 rfl)) (Or.inl (o.i 36 8 rfl)) (now_st hm).1 (now_st hn).2 (Or.inl (o.i 36 9 rfl)) (now_st hm).2 (fun w => Or.inl ⟨w, Or.inl (o.i 141 10 rfl)⟩)
theorem IV_fd {t : Nat} {b b2 : Bool} {M M2 : Mem} {n p vs ps : Nat} (ht : t < 512) (h : IV t b M n p vs ps) (hs : sm rgFd M M2) (kF : b2 = true → FK M2) (kb : b2 = true → (b = true ∧ st1 M M2 141 10) ∨ M2.1 141 10 = M.1 1 14) : INV (t + 1) b2 M2 := by
  obtain ⟨-, -, d1, d2, d3, d4, d5, d6, d7, d8, d9⟩ := id h
  have o := hs.on [(21, 40, none)] (by decide) (by decide)
  exact IV_up ht h (hs.up (by decide)) (DK_on (hs.on _ (by decide) (by decide)) d4) (SK_on (hs.on _ (by decide) (by decide)) d5) (LB_on (hs.on _ (by decide) (by decide)) d6) (RK_on (hs.on _ (by decide) (by decide)) d7) (OK_on (hs.on _ (by decide) (by decide)) d8) kF (Or.inl (o.i 21 7 rfl)) (Or.inl (o.i 26 5 rfl)) (Or.inl (o.i 30 7 rfl)) (Or.inl (o.i 35 6 rfl)) (Or.inl (o.i 36 8 rfl)) (Or.inl (o.i 40 9 rfl)) (Or.inl (o.i 21 8 rfl)) (Or.inl (o.i 36 9 rfl)) (Or.inl (o.i 40 10 rfl)) kb
/-- the voters changed: no cache speaks of now -/
def rgW : Rg := [(1, 1, none), (2, 9, none), (10, 20, none), (45, 46, none), (47, 47, some 1), (47, 47, some 2), (47, 47, some 3), (47, 47, some 4), (47, 47, some 5), (47, 47, some 19), (47, 47, some 20), (47, 47, some 21), (47, 47, some 22), (47, 47, some 29), (47, 47, some 48), (50, 77, none), (101, 140, none)]
theorem IV_vs {t : Nat} {b : Bool} {M M2 : Mem} {n p vs ps n2 p2 d e : Nat} (ht : t < 512) (h : IV t b M n p vs ps) (hs : sm rgW M M2) (h0 : 0 < d) (hd : d ≤ 15) (he : e ≤ 20) (e1 : M2.1 1 14 = nI (vs + d)) (e2 : M2.1 1 15 = nI (ps + e)) (e3 : M2.1 47 29 = 0) (hD : DI M2 n2 p2) (hT : TX M2) (hM : MV M2 n2) : INV (t + 1) b M2 := by
  obtain ⟨⟨hv, hp⟩, ⟨⟨c1, c2⟩, ⟨c3, c4, c5, c6, c7, c8⟩, ⟨c9, c10, c11⟩, c12⟩, -⟩ := h
  have o := hs.on [(21, 40, none), (141, 141, none)] (by decide) (by decide)
  have f : ∀ {x : Int32}, x.toInt ≤ vs → x.toInt ≤ ((vs + d : Nat) : Int) := fun h => by omega
  have g : ∀ {x : Int32}, x.toInt ≤ ps → x.toInt ≤ ((ps + e : Nat) : Int) := fun h => by omega
  have i1 := o.i 21 7 rfl
  have i2 := o.i 26 5 rfl
  have i3 := o.i 30 7 rfl
  have i4 := o.i 35 6 rfl
  have i5 := o.i 36 8 rfl
  have i6 := o.i 40 9 rfl
  have i7 := o.i 21 8 rfl
  have i8 := o.i 36 9 rfl
  have i9 := o.i 40 10 rfl
  have i0 := o.i 141 10 rfl
  refine ⟨n2, p2, vs + d, ps + e, ⟨by omega, by omega⟩, ⟨⟨e1, e2⟩, ⟨by rw [i1]; exact f c3, by rw [i2]; exact f c4, by rw [i3]; exact f c5, by rw [i4]; exact f c6, by rw [i5]; exact f c7, by rw [i6]; exact f c8⟩, ⟨by rw [i7]; exact g c9, by rw [i8]; exact g c10, by rw [i9]; exact g c11⟩, fun w => by rw [i0]; exact f (c12 w)⟩, hD, hT, hM, ?_, ?_, ⟨?_, ?_, ?_⟩, ?_, ?_, ?_⟩
  · intro w
    rw [i1, e1] at w
    exact absurd w (ne_st c3 (by omega) (by omega))
  · intro w
    rw [i6, e1] at w
    exact absurd w (ne_st c8 (by omega) (by omega))
  · intro w
    rw [i2, e1] at w
    exact absurd w (ne_st c4 (by omega) (by omega))
  · intro w
    rw [i3, e1] at w
    exact absurd w (ne_st c5 (by omega) (by omega))
  · intro w
    exact absurd e3 w
  · intro w
    rw [i4, e1] at w
    exact absurd w (ne_st c6 (by omega) (by omega))
  · intro w
    rw [i5, e1] at w
    exact absurd w (ne_st c7 (by omega) (by omega))
  · intro w a ha h1 h2
    rw [i0, e1] at h2
    exact absurd h2 (ne_st (c12 w) (by omega) (by omega))
