/-! a voter moves, a place is proposed -/
theorem IV_mv {t : Nat} {b : Bool} {M M2 : Mem} {n p vs ps : Nat} (ht : t < 512) (h : IV t b M n p vs ps) (hs : sm rgN M M2) (e1 : M2.1 1 14 = nI (vs + 1)) (e4 : M2.1 21 7 = nI (vs + 1)) (e5 : M2.1 21 8 = M.1 1 15) (e3 : M2.1 47 29 = 0) (hD : DI M2 n p) (hM : MV M2 n) (kD : DK M2 p) : INV (t + 1) b M2 := by
  obtain ⟨⟨hv, hp⟩, ⟨⟨c1, c2⟩, ⟨c3, c4, c5, c6, c7, c8⟩, ⟨c9, c10, c11⟩, c12⟩, -, d2, -⟩ := h
  have o := hs.on [(1, 1, some 15), (26, 40, none), (141, 141, none)] (by decide) (by decide)
  have f : ∀ {x : Int32}, x.toInt ≤ vs → x.toInt ≤ ((vs + 1 : Nat) : Int) := fun h => by omega
  have i2 := o.i 26 5 rfl
  have i3 := o.i 30 7 rfl
  have i4 := o.i 35 6 rfl
  have i5 := o.i 36 8 rfl
  have i6 := o.i 40 9 rfl
  have i8 := o.i 36 9 rfl
  have i9 := o.i 40 10 rfl
  have i0 := o.i 141 10 rfl
  refine ⟨n, p, vs + 1, ps, ⟨by omega, by omega⟩, ⟨⟨e1, (o.i 1 15 rfl).trans c2⟩, ⟨by rw [e4, nI_toInt (by omega)]; exact Int.le_refl _, by rw [i2]; exact f c4, by rw [i3]; exact f c5, by rw [i4]; exact f c6, by rw [i5]; exact f c7, by rw [i6]; exact f c8⟩, ⟨by rw [e5, c2, nI_toInt (by omega)]; exact Int.le_refl _, by rw [i8]; exact c10, by rw [i9]; exact c11⟩, fun w => by rw [i0]; exact f (c12 w)⟩, hD, TX_on (hs.on _ (by decide) (by decide)) d2, hM, kD, ?_, ⟨?_, ?_, ?_⟩, ?_, ?_, ?_⟩
  · intro w
    rw [i6, e1] at w
    exact absurd w (ne_st c8 (by omega) (by omega))
  · intro w
    rw [i2, e1] at w
    exact absurd w (ne_st c4 (by omega) (by omega))
  · intro w
    rw [i3, e1] at w
    exact absurd w (ne_st c5 (by omega) (by omega))
  · intro w
    exact absurd e3 w
  · intro w
    rw [i4, e1] at w
    exact absurd w (ne_st c6 (by omega) (by omega))
  · intro w
    rw [i5, e1] at w
    exact absurd w (ne_st c7 (by omega) (by omega))
  · intro w a ha h1 h2
    rw [i0, e1] at h2
    exact absurd h2 (ne_st (c12 w) (by omega) (by omega))
theorem IV_pp {t : Nat} {b : Bool} {M M2 : Mem} {n p vs ps : Nat} (ht : t < 512) (h : IV t b M n p vs ps) (hs : sm [(1, 1, some 8), (1, 1, some 15), (8, 9, none), (68, 68, none), (71, 71, none), (74, 74, some 0)] M M2) (e2 : M2.1 1 15 = M.1 1 15 + 1) (hD : DI M2 n (p + 1)) : INV (t + 1) b M2 := by
  obtain ⟨⟨hv, hp⟩, ⟨⟨c1, c2⟩, ⟨c3, c4, c5, c6, c7, c8⟩, ⟨c9, c10, c11⟩, c12⟩, -, d2, d3, -, -, ⟨dL, dM, dK⟩, dR, -, dF⟩ := h
  have o := hs.on [(1, 1, some 0), (1, 1, some 11), (1, 1, some 12), (1, 1, some 13), (1, 1, some 14), (2, 7, none), (21, 40, none), (47, 47, none), (79, 84, none), (141, 146, none)] (by decide) (by decide)
  have e15 : M2.1 1 15 = nI (ps + 1) := by rw [e2, c2, nI_s]
  have g : ∀ {x : Int32}, x.toInt ≤ ps → x.toInt ≤ ((ps + 1 : Nat) : Int) := fun h => by omega
  have i14 := o.i 1 14 rfl
  have i1 := o.i 21 7 rfl
  have i2 := o.i 26 5 rfl
  have i3 := o.i 30 7 rfl
  have i4 := o.i 35 6 rfl
  have i5 := o.i 36 8 rfl
  have i6 := o.i 40 9 rfl
  have i7 := o.i 21 8 rfl
  have i8 := o.i 36 9 rfl
  have i9 := o.i 40 10 rfl
  have i0 := o.i 141 10 rfl
  have eD : cD M2 = cD M := by
    unfold cD
    rw [o.i 1 0 rfl, o.row 2 (fun _ => rfl), o.row 3 (fun _ => rfl), o.row 4 (fun _ => rfl), o.row 5 (fun _ => rfl), o.row 6 (fun _ => rfl), o.row 7 (fun _ => rfl)]
  have eB : cB M2 = cB M := by
    unfold cB
    rw [o.i 1 11 rfl, o.i 1 12 rfl, o.i 1 13 rfl]
  refine ⟨n, p + 1, vs, ps + 1, ⟨by omega, by omega⟩, ⟨⟨i14.trans c1, e15⟩, ⟨by rw [i1]; exact c3, by rw [i2]; exact c4, by rw [i3]; exact c5, by rw [i4]; exact c6, by rw [i5]; exact c7, by rw [i6]; exact c8⟩, ⟨by rw [i7]; exact g c9, by rw [i8]; exact g c10, by rw [i9]; exact g c11⟩, fun w => by rw [i0]; exact c12 w⟩, hD, TX_on (hs.on _ (by decide) (by decide)) d2, MV_on (hs.on _ (by decide) (by decide)) d3, ?_, ?_, ⟨?_, ?_, ?_⟩, ?_, ?_, ?_⟩
  · intro _ w
    rw [i7, e15] at w
    exact absurd w (ne_st c9 (by omega) (by omega))
  · intro _ w
    rw [i9, e15] at w
    exact absurd w (ne_st c11 (by omega) (by omega))
  · intro w
    rw [i2, i14] at w
    exact LC_cg eD (o.sub (by decide)) (dL w)
  · intro w
    rw [i3, i14] at w
    rw [i2, i14]
    exact ⟨(dM w).1, MC_cg eD (o.sub (by decide)) (dM w).2⟩
  · intro w
    rw [o.i 47 29 rfl] at w
    exact ⟨LR_cg eD (o.sub (by decide)) (dK w).1, MR_cg eD (o.sub (by decide)) (dK w).2⟩
  · intro w
    rw [i4, i14] at w
    exact RC_cg eD (o.sub (by decide)) (dR w)
  · intro _ w
    rw [i8, e15] at w
    exact absurd w (ne_st c10 (by omega) (by omega))
  · intro w a ha h1 h2
    rw [o.i 141 9 rfl] at h1
    rw [i0, i14] at h2
    exact FdC_cg eD eB (o.sub (by decide)) (dF w a ha h1 h2)
/-! the calls -/
theorem go_0 : st_0 INV := fun t b M a1 a2 a3 a4 a5 ht ⟨n, p, vs, ps, h⟩ => by
  obtain ⟨r, M1, M2, h1, h2, h3, h4⟩ := s_feed h.2.2.2.1 a1 a2 a3 a4 a5
  exact ⟨r, M1, M2, h1, h2, IV_id h (h4.up (by decide)) h3⟩
theorem go_1 : st_1 INV := fun t b M a1 ht ⟨n, p, vs, ps, h⟩ => by
  obtain ⟨r, M1, M2, h1, h2, h3, h4⟩ := s_end h.2.2.2.1 a1
  exact ⟨r, M1, M2, h1, h2, IV_id h (h4.up (by decide)) h3⟩
theorem go_2 : st_2 INV := fun t b M ht ⟨n, p, vs, ps, h⟩ => by
  obtain ⟨r, M1, M2, h1, h2, h4⟩ := s_fault h.2.2.2.1
  exact ⟨r, M1, M2, h1, h2, IV_id h (h4.up (by decide)) (TX_on (h4.on _ (by decide) (by decide)) h.2.2.2.1)⟩
theorem go_3 : st_3 INV := fun t b M ht ⟨n, p, vs, ps, h⟩ => by
  obtain ⟨r, M1, M2, h1, h2, h3⟩ := s_sheet h.2.2.2.1 h.2.1.1.1 h.2.1.1.2
  refine ⟨r, M1, M2, h1, h2, ?_⟩
  rcases h3 with h4 | ⟨a, c, q1, q2, q3, q4, q5, q6, q7, q8⟩
  · exact IV_id h (h4.up (by decide)) (TX_on (h4.on _ (by decide) (by decide)) h.2.2.2.1)
  · exact IV_vs ht h (q8.up (by decide)) q1 q2.n15 q2.p20 q5 q6 q7 q2 q3 q4
theorem go_4 : st_4 INV := fun t b M a1 a2 ht ⟨n, p, vs, ps, h⟩ => by
  obtain ⟨r, h1, h2⟩ := s_voter h.2.2.1 a1 a2
  exact ⟨r, h1, h2, IV_st h⟩
theorem go_5 : st_5 INV := fun t b M a1 a2 ht ⟨n, p, vs, ps, h⟩ => by
  obtain ⟨r, h1, h2⟩ := s_place h.2.2.1 a1 a2
  exact ⟨r, h1, h2, IV_st h⟩
theorem go_6 : st_6 INV := fun t b M a1 a2 ht ⟨n, p, vs, ps, h⟩ => by
  obtain ⟨r, M1, M2, h1, h2, h3⟩ := s_propose h.2.2.1 a1 a2
  refine ⟨r, M1, M2, h1, h2, ?_⟩
  rcases h3 with h3 | ⟨q1, q2, q3⟩
  · rw [h3]; exact IV_st h
  · exact IV_pp ht h q3 q2 q1
theorem go_7 : st_7 INV := fun t b M a1 a2 a3 ht ⟨n, p, vs, ps, h⟩ => by
  obtain ⟨r, h1, h2⟩ := s_way h.2.2.1 a1 a2 a3
  exact ⟨r, h1, h2, IV_st h⟩
theorem IV_DR {t : Nat} {b : Bool} {M M1 : Mem} {n p vs ps : Nat} (ht : t < 512) (h : IV t b M n p vs ps) (hd : DR M M1 p) : INV (t + 1) b M1 := IV_dr ht h (hd.1.up (by decide)) hd.2.1 hd.2.2
theorem go_8 : st_8 INV := fun t b M a1 a2 ht ⟨n, p, vs, ps, h⟩ => by
  obtain ⟨r, M1, h1, h2, h3⟩ := s_votes h.2.2.1 h.2.2.2.2.2.1 a1 a2
  exact ⟨r, M1, h1, h2, IV_DR ht h h3⟩
theorem go_9 : st_9 INV := fun t b M a1 a2 ht ⟨n, p, vs, ps, h⟩ => by
  obtain ⟨r, M1, h1, h2, h3⟩ := s_beats h.2.2.1 h.2.2.2.2.2.1 a1 a2
  exact ⟨r, M1, h1, h2, IV_DR ht h h3⟩
theorem go_10 : st_10 INV := fun t b M a1 a2 ht ⟨n, p, vs, ps, h⟩ => by
  obtain ⟨r, h1, h2⟩ := s_wins h.2.2.1 a1 a2
  exact ⟨r, h1, h2, IV_st h⟩
theorem go_11 : st_11 INV := fun t b M a1 a2 ht ⟨n, p, vs, ps, h⟩ => by
  obtain ⟨r, M1, M2, h1, h2, h3, h4, h5, h6⟩ := s_line h.2.2.1 h.2.2.2.2.2.2.2.1 a1 a2
  exact ⟨r, M1, M2, h1, h2, IV_lb ht h h3 h4 h5 h6⟩
theorem go_12 : st_12 INV := fun t b M a1 a2 ht ⟨n, p, vs, ps, h⟩ => by
  obtain ⟨r, M1, M2, h1, h2, h3, h4, h5, h6⟩ := s_middle h.2.2.1 h.2.2.2.2.2.2.2.1 a1 a2
  exact ⟨r, M1, M2, h1, h2, IV_lb ht h h3 h4 h5 h6⟩
theorem go_13 : st_13 INV := fun t b M a1 ht ⟨n, p, vs, ps, h⟩ => by
  obtain ⟨r, M1, M2, h1, h2, h3, h4, h5, h6⟩ := s_proof h.2.2.1 h.2.2.2.2.2.2.2.1 a1
  exact ⟨r, M1, M2, h1, h2, IV_lb ht h h3 h4 h5 h6⟩
theorem go_14 : st_14 INV := fun t b M a1 ht ⟨n, p, vs, ps, h⟩ => by
  obtain ⟨r, M1, M2, h1, h2, h3, h4, h5, h6, h7⟩ := s_round h.2.2.1 h.2.2.2.2.2.2.2.1 h.2.2.2.2.2.2.2.2.1 a1
  exact ⟨r, M1, M2, h1, h2, IV_rd ht h h3 h4 h5 h6 h7⟩
theorem go_15 : st_15 INV := fun t b M a1 a2 a3 ht ⟨n, p, vs, ps, h⟩ => by
  rcases s_winSet b h.2.2.1 h.2.2.2.2.2.2.2.2.2.2 a1 a2 a3 with ⟨hb, r, M1, M2, h1, h2, h3, h4, h5⟩ | ⟨hb, r, M2, h1, h2, h4⟩ | ⟨hb, r, M1, M2, h1, h2, h3, h4, h5⟩
  · exact Or.inl ⟨hb, r, M1, M2, h1, h2, IV_fd ht h h4 (fun _ => h3) (fun _ => Or.inl ⟨hb, h5⟩)⟩
  · exact Or.inr (Or.inl ⟨hb, r, M2, h1, h2, IV_fd ht h h4 (fun w => by cases w) (fun w => by cases w)⟩)
  · exact Or.inr (Or.inr ⟨hb, r, M1, M2, h1, h2, IV_fd ht h h4 (fun _ => h3) (fun _ => Or.inr h5)⟩)
theorem go_16 : st_16 INV := fun t b M a1 a2 a3 a4 ht ⟨n, p, vs, ps, h⟩ => by
  rcases s_piece b h.2.2.1 h.2.2.2.2.2.2.2.2.2.2 a1 a2 a3 a4 with ⟨hb, r, M1, M2, h1, h2, h3, h4, h5⟩ | ⟨hb, r, M2, h1, h2, h4⟩ | ⟨hb, r, M1, M2, h1, h2, h3, h4, h5⟩
  · exact Or.inl ⟨hb, r, M1, M2, h1, h2, IV_fd ht h h4 (fun _ => h3) (fun _ => Or.inl ⟨hb, h5⟩)⟩
  · exact Or.inr (Or.inl ⟨hb, r, M2, h1, h2, IV_fd ht h h4 (fun w => by cases w) (fun w => by cases w)⟩)
  · exact Or.inr (Or.inr ⟨hb, r, M1, M2, h1, h2, IV_fd ht h h4 (fun _ => h3) (fun _ => Or.inr h5)⟩)
theorem go_17 : st_17 INV := fun t b M a1 a2 a3 ht ⟨n, p, vs, ps, h⟩ => by
  obtain ⟨r, M1, M2, h1, h2, ⟨h3, h5, h6⟩, h4⟩ := s_led h.2.2.1 h.2.2.2.2.2.1 a1 a2 a3
  have o := h4.on [(21, 21, none)] (by decide) (by decide)
  refine ⟨r, M1, M2, h1, h2, IV_dr ht h ((h3.up (by decide)).tr (h4.up (by decide))) (DK_on (h4.on _ (by decide) (by decide)) h5) ?_⟩
  unfold now
  rw [o.i 21 7 rfl, o.i 21 8 rfl]
  exact h6
theorem go_18 : st_18 INV := fun t b M a1 ht ⟨n, p, vs, ps, h⟩ => by
  obtain ⟨r, M1, M2, h1, h2, ⟨h3, h5, h6⟩, h4⟩ := s_best h.2.2.1 h.2.2.2.2.2.1 a1
  have o := h4.on [(21, 21, none)] (by decide) (by decide)
  refine ⟨r, M1, M2, h1, h2, IV_dr ht h ((h3.up (by decide)).tr (h4.up (by decide))) (DK_on (h4.on _ (by decide) (by decide)) h5) ?_⟩
  unfold now
  rw [o.i 21 7 rfl, o.i 21 8 rfl]
  exact h6
theorem go_19 : st_19 INV := fun t b M a1 a2 ht ⟨n, p, vs, ps, h⟩ => by
  rcases s_between b h.2.2.1 h.2.2.2.2.2.2.2.2.2.2 a1 a2 with ⟨hb, r, M1, h1, h2, h3, h4, h5⟩ | ⟨hb, r, h1, h2⟩ | ⟨hb, r, M1, h1, h2, h3, h4, h5⟩
  · exact Or.inl ⟨hb, r, M1, h1, h2, IV_fd ht h h4 (fun _ => h3) (fun _ => Or.inl ⟨hb, h5⟩)⟩
  · exact Or.inr (Or.inl ⟨hb, r, h1, h2, by subst hb; exact IV_st h⟩)
  · exact Or.inr (Or.inr ⟨hb, r, M1, h1, h2, IV_fd ht h h4 (fun _ => h3) (fun _ => Or.inr h5)⟩)
theorem go_20 : st_20 INV := fun t b M ht ⟨n, p, vs, ps, h⟩ => by
  obtain ⟨r, M1, h1, h2, h3, h4, h5, h6, h7⟩ := s_rest h.2.2.1 h.2.2.2.2.2.1 h.2.2.2.2.2.2.2.2.2.1
  exact ⟨r, M1, h1, h2, IV_ol ht h (h3.up (by decide)) h4 h5 h6 h7⟩
theorem go_21 : st_21 INV := fun t b M a1 ht ⟨n, p, vs, ps, h⟩ => by
  obtain ⟨r, M1, M2, h1, h2, h3, h4, h5, h6, h7⟩ := s_lot h.2.2.1 h.2.2.2.2.2.1 h.2.2.2.2.2.2.2.2.2.1 a1
  exact ⟨r, M1, M2, h1, h2, IV_ol ht h h3 h4 h5 h6 h7⟩
theorem go_22 : st_22 INV := fun t b M a1 ht ⟨n, p, vs, ps, h⟩ => by
  obtain ⟨r, M1, h1, h2, h3⟩ := s_need h.2.2.1 h.2.2.2.2.2.1 a1
  exact ⟨r, M1, h1, h2, IV_DR ht h h3⟩
theorem go_23 : st_23 INV := fun t b M a1 a2 ht ⟨n, p, vs, ps, h⟩ => by
  rcases s_most b h.2.2.1 h.2.2.2.2.2.2.2.2.2.2 a1 a2 with ⟨hb, r, M1, h1, h2, h3, h4, h5⟩ | ⟨hb, r, h1, h2⟩ | ⟨hb, r, M1, h1, h2, h3, h4, h5⟩
  · exact Or.inl ⟨hb, r, M1, h1, h2, IV_fd ht h h4 (fun _ => h3) (fun _ => Or.inl ⟨hb, h5⟩)⟩
  · exact Or.inr (Or.inl ⟨hb, r, h1, h2, by subst hb; exact IV_st h⟩)
  · exact Or.inr (Or.inr ⟨hb, r, M1, h1, h2, IV_fd ht h h4 (fun _ => h3) (fun _ => Or.inr h5)⟩)
theorem go_24 : st_24 INV := fun t b M ht ⟨n, p, vs, ps, h⟩ => by
  obtain ⟨r, M1, h1, h2, h3⟩ := s_peace h.2.2.1 h.2.2.2.2.2.1
  exact ⟨r, M1, h1, h2, IV_DR ht h h3⟩
theorem go_25 : st_25 INV := fun t b M a1 ht ⟨n, p, vs, ps, h⟩ => by
  obtain ⟨r, M1, h1, h2, h3, h4, h5, h6, h7⟩ := s_make h.2.2.1 h.2.2.2.2.2.1 h.2.2.2.2.2.2.1 a1
  exact ⟨r, M1, M1, h1, h2, IV_mk ht h h3 h4 h5 h6 h7⟩
theorem go_26 : st_26 INV := fun t b M a1 ht ⟨n, p, vs, ps, h⟩ => by
  obtain ⟨r, M1, M2, h1, h2, h3, h5, h6, h4⟩ := s_join h.2.2.1 h.2.2.2.2.2.1 a1
  have o := h4.on [(21, 21, none)] (by decide) (by decide)
  refine ⟨r, M1, M2, h1, h2, IV_dr ht h ((h3.up (by decide)).tr (h4.up (by decide))) (DK_on (h4.on _ (by decide) (by decide)) h5) ?_⟩
  unfold now
  rw [o.i 21 7 rfl, o.i 21 8 rfl]
  exact h6
theorem go_27 : st_27 INV := fun t b M a1 a2 ht ⟨n, p, vs, ps, h⟩ => by
  obtain ⟨r, M2, h1, h2, h4⟩ := s_doubt h.2.2.1 a1 a2
  exact ⟨r, M2, h1, h2, IV_id h (h4.up (by decide)) (TX_on (h4.on _ (by decide) (by decide)) h.2.2.2.1)⟩
theorem go_28 : st_28 INV := fun t b M a1 a2 a3 ht ⟨n, p, vs, ps, h⟩ => by
  have hv := h.1.1
  obtain ⟨r, M1, M2, h1, h2, h3, h4, h5, h6⟩ := s_move h.2.2.1 h.2.2.2.2.2.1 h.2.2.2.2.1 h.2.1.1.1 (by omega) a1 a2 a3
  refine ⟨r, M1, M2, h1, h2, ?_⟩
  rcases h6 with h6 | ⟨q1, q2, q3, q4, q5⟩
  · rw [h6]; exact IV_st h
  · exact IV_mv ht h q5 q1 q2 q3 q4 h3 h4 h5
theorem go_29 : st_29 INV := fun t b M ht ⟨n, p, vs, ps, h⟩ => by
  obtain ⟨r, M1, M2, h1, h2, h3, h4, h6⟩ := s_undo h.2.2.1 h.2.2.2.2.1
  refine ⟨r, M1, M2, h1, h2, ?_⟩
  rcases h6 with h6 | ⟨q1, q2, q3⟩
  · rw [h6]; exact IV_st h
  · refine IV_vs (d := 1) (e := 0) ht h (q3.up (by decide)) (by omega) (by omega) (by omega) (by rw [q1, h.2.1.1.1, nI_s]) ?_ q2 h3 (TX_on (q3.on _ (by decide) (by decide)) h.2.2.2.1) h4
    rw [(q3.on [(1, 1, some 15)] (by decide) (by decide)).i 1 15 rfl]
    exact h.2.1.1.2
theorem go_30 : st_30 INV := fun t b M a1 a2 ht ⟨n, p, vs, ps, h⟩ => by
  obtain ⟨r, h1, h2⟩ := s_moved h.2.2.2.2.1 a1 a2
  exact ⟨r, h1, h2, IV_st h⟩
theorem go_31 : st_31 INV := fun t b M a1 ht ⟨n, p, vs, ps, h⟩ => by
  obtain ⟨s, -, w1, w2, -⟩ := h.2.2.2.2.1
  obtain ⟨L, -, u1, u2, -⟩ := h.2.2.2.1
  obtain ⟨r, M1, h1, h2, h3⟩ := s_count h.2.2.1 h.2.2.2.2.2.1 (w2.trans w1.symm) (u2.trans u1.symm) a1
  exact ⟨r, M1, h1, h2, IV_DR ht h h3⟩
theorem steps : STEPS INV := ⟨go_0, go_1, go_2, go_3, go_4, go_5, go_6, go_7, go_8, go_9, go_10, go_11, go_12, go_13, go_14, go_15, go_16, go_17, go_18, go_19, go_20, go_21, go_22, go_23, go_24, go_25, go_26, go_27, go_28, go_29, go_30, go_31⟩
