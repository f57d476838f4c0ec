def STEPS (Inv : Nat → Bool → Mem → Prop) : Prop := st_0 Inv ∧ st_1 Inv ∧ st_2 Inv ∧ st_3 Inv ∧ st_4 Inv ∧ st_5 Inv ∧ st_6 Inv ∧ st_7 Inv ∧ st_8 Inv ∧ st_9 Inv ∧ st_10 Inv ∧ st_11 Inv ∧ st_12 Inv ∧ st_13 Inv ∧ st_14 Inv ∧ st_15 Inv ∧ st_16 Inv ∧ st_17 Inv ∧ st_18 Inv ∧ st_19 Inv ∧ st_20 Inv ∧ st_21 Inv ∧ st_22 Inv ∧ st_23 Inv ∧ st_24 Inv ∧ st_25 Inv ∧ st_26 Inv ∧ st_27 Inv ∧ st_28 Inv ∧ st_29 Inv ∧ st_30 Inv ∧ st_31 Inv
set_option maxHeartbeats 8000000 in
set_option maxRecDepth 100000 in
theorem law_loop {p : Program} {l : Launch} {e : Env} {s : State} {m : MethodId} {below : List Frame} {meth : Method} {c : Code} {E : Ge} {b0 L : Nat} {xs : Nat → Int32} {Inv : Nat → Bool → Mem → Prop} (hS : STEPS Inv) (hL : L ≤ 3072) (X : CX E p s m #[Value.ref b0] c meth code 4 ret RL) (hXs : va_X b0 L xs s s.heap) (hbl : b0 < s.heap.size) (hE : ¬ fr E b0) (hEs : eB E = s.heap.size) :
    ∀ (n t : Nat), 6 * t ≤ L → L + 1 ≤ 6 * t + n → ∀ (b : Bool) (M : Mem) (H : Heap) (locs : List Loc) (ls : Array Slot), Inv t b M → Rl E (sh_ b) (nn b) s.heap M H locs → lv_has ls 4 [(0, .ref b0), (1, .ref (eB E + 0)), (2, .ref (eB E + 47)), (3, .int (nI (6 * t)))] →
      W p l e room_1 s m #[Value.ref b0] below meth c H locs (lc b) (lsl b) (lw_Z below #[Value.ref b0] s) (F0 m 18 ls []) := by
  obtain ⟨hx, hb, hr, hml, hown, hts, hK, hN, hO, hlk, hbs⟩ := id X
  intro n
  induction n using Nat.strongRecOn with
  | ind n ih =>
    intro t ht1 ht2 b M H locs ls hI hR hl
    refine lv_iload_n hx hb dL_law_18 rfl (lv_at hl 3 rfl) ?_
    refine lv_aload_n hx hb dL_law_19 rfl (lv_at hl 0 rfl) ?_
    refine va_slen hx hb hXs hbl hE hR.2.1 dL_law_20 ?_
    refine lv_bipush (v := 6) hx hb dL_law_21 (by decide) ?_
    refine lv_isub hx hb dL_law_23 ?_
    have hsub : (Int32.ofNat L - 6).toInt = (L : Int) - 6 := pk_sub_toInt (a := L) (b := 6) (by omega) (by decide)
    have h6t : (nI (6 * t)).toInt = ((6 * t : Nat) : Int) := nI_toInt (by omega)
    refine lv_icmp_gt (tgt := 1138) hx hb dL_law_24 (by decide) (fun q => ?_) (fun q => ?_)
    · refine lv_iconst (v := 1) hx hb dL_law_1138 (by decide) ?_
      refine va_forget (fun q hq => by rw [← hEs]; exact hR.2.1.2.2 q hq) ?_
      refine W.widen (k := 600000) (n := 7302250) (by cases b <;> decide) (by cases b <;> decide) ?_
      exact lw_ret hx hb hr hlk dL_law_1139
    · have hin : 6 * t + 6 ≤ L := by
        rw [Int32.lt_iff_toInt_lt, hsub, h6t] at q
        omega
      have ht : t < 512 := by omega
      have hk : ∀ k, k ≤ 5 → vp_in (nI (6 * t + k)) L := fun k hk => vp_in_nI (by omega) (by omega)
      have h0 : vp_in (nI (6 * t)) L := hk 0 (by decide)
      have h1 : vp_in (nI (6 * t) + 1) L := by rw [show nI (6 * t) + 1 = nI (6 * t + 1) from nI_add _ 1]; exact hk 1 (by decide)
      have h2 : vp_in (nI (6 * t) + 2) L := by rw [show nI (6 * t) + 2 = nI (6 * t + 2) from nI_add _ 2]; exact hk 2 (by decide)
      have h3 : vp_in (nI (6 * t) + 3) L := by rw [show nI (6 * t) + 3 = nI (6 * t + 3) from nI_add _ 3]; exact hk 3 (by decide)
      have h4 : vp_in (nI (6 * t) + 4) L := by rw [show nI (6 * t) + 4 = nI (6 * t + 4) from nI_add _ 4]; exact hk 4 (by decide)
      have h5 : vp_in (nI (6 * t) + 5) L := by rw [show nI (6 * t) + 5 = nI (6 * t + 5) from nI_add _ 5]; exact hk 5 (by decide)
      have kk : ∀ (b : Bool) (M : Mem) (H : Heap) (locs : List Loc), Inv (t + 1) b M → Rl E (sh_ b) (nn b) s.heap M H locs → W p l e room_1 s m #[Value.ref b0] below meth c H locs (lc b) (lsl b) (lw_Z below #[Value.ref b0] s) (F0 m 1132 ls []) := by
        intro b M H locs hI hR
        refine lv_iinc (v := nI (6 * (t + 1))) (lv' := [(3, .int (nI (6 * (t + 1)))), (0, .ref b0), (1, .ref (eB E + 0)), (2, .ref (eB E + 47))]) hx hb dL_law_1132 hl (k := 3) rfl (by rw [show 6 * (t + 1) = 6 * t + 6 by omega]; exact nI_add _ 6) (by decide) rfl (fun ls hl => ?_)
        refine lv_goto (tgt := 18) hx hb dL_law_1135 (by decide) ?_
        exact ih (n - 6) (by omega) (t + 1) (by omega) (by omega) b M H locs ls hI hR (lv_sub hl [1, 2, 3, 0] rfl)
      refine lv_aload_n hx hb dL_law_27 rfl (lv_at hl 0 rfl) ?_
      refine lv_iload_n hx hb dL_law_28 rfl (lv_at hl 3 rfl) ?_
      refine va_sld hx hb hXs hbl hE hR.2.1 h0 dL_law_29 ?_
      refine lv_bipush (v := 31) hx hb dL_law_30 (by decide) ?_
      refine lv_iand hx hb dL_law_32 ?_
      obtain ⟨j, hj, ej⟩ := pk_andE (xs (nI (6 * t)).toNatClampNeg) (m := 31) 5 (by decide)
      have hj : j = 0 ∨ j = 1 ∨ j = 2 ∨ j = 3 ∨ j = 4 ∨ j = 5 ∨ j = 6 ∨ j = 7 ∨ j = 8 ∨ j = 9 ∨ j = 10 ∨ j = 11 ∨ j = 12 ∨ j = 13 ∨ j = 14 ∨ j = 15 ∨ j = 16 ∨ j = 17 ∨ j = 18 ∨ j = 19 ∨ j = 20 ∨ j = 21 ∨ j = 22 ∨ j = 23 ∨ j = 24 ∨ j = 25 ∨ j = 26 ∨ j = 27 ∨ j = 28 ∨ j = 29 ∨ j = 30 ∨ j = 31 := by omega
      rcases hj with rfl | rfl | rfl | rfl | rfl | rfl | rfl | rfl | rfl | rfl | rfl | rfl | rfl | rfl | rfl | rfl | rfl | rfl | rfl | rfl | rfl | rfl | rfl | rfl | rfl | rfl | rfl | rfl | rfl | rfl | rfl | rfl
      · exact x_tsw (v := 0) (tgt := 176) hx hb dL_law_33 ej (by decide) (by decide) (off := 143) (by decide) (by decide) (lc_0 hS.1 X hXs hbl hE h1 h2 h3 h4 h5 ht hI hR hl kk)
      · exact x_tsw (v := 1) (tgt := 239) hx hb dL_law_33 ej (by decide) (by decide) (off := 206) (by decide) (by decide) (lc_1 hS.2.1 X hXs hbl hE h1 ht hI hR hl kk)
      · exact x_tsw (v := 2) (tgt := 262) hx hb dL_law_33 ej (by decide) (by decide) (off := 229) (by decide) (by decide) (lc_2 hS.2.2.1 X hXs hbl hE ht hI hR hl kk)
      · exact x_tsw (v := 3) (tgt := 275) hx hb dL_law_33 ej (by decide) (by decide) (off := 242) (by decide) (by decide) (lc_3 hS.2.2.2.1 X hXs hbl hE ht hI hR hl kk)
      · exact x_tsw (v := 4) (tgt := 288) hx hb dL_law_33 ej (by decide) (by decide) (off := 255) (by decide) (by decide) (lc_4 hS.2.2.2.2.1 X hXs hbl hE h1 h2 ht hI hR hl kk)
      · exact x_tsw (v := 5) (tgt := 321) hx hb dL_law_33 ej (by decide) (by decide) (off := 288) (by decide) (by decide) (lc_5 hS.2.2.2.2.2.1 X hXs hbl hE h1 h2 ht hI hR hl kk)
      · exact x_tsw (v := 6) (tgt := 354) hx hb dL_law_33 ej (by decide) (by decide) (off := 321) (by decide) (by decide) (lc_6 hS.2.2.2.2.2.2.1 X hXs hbl hE h1 h2 ht hI hR hl kk)
      · exact x_tsw (v := 7) (tgt := 387) hx hb dL_law_33 ej (by decide) (by decide) (off := 354) (by decide) (by decide) (lc_7 hS.2.2.2.2.2.2.2.1 X hXs hbl hE h1 h2 h3 ht hI hR hl kk)
      · exact x_tsw (v := 8) (tgt := 430) hx hb dL_law_33 ej (by decide) (by decide) (off := 397) (by decide) (by decide) (lc_8 hS.2.2.2.2.2.2.2.2.1 X hXs hbl hE h1 h2 ht hI hR hl kk)
      · exact x_tsw (v := 9) (tgt := 463) hx hb dL_law_33 ej (by decide) (by decide) (off := 430) (by decide) (by decide) (lc_9 hS.2.2.2.2.2.2.2.2.2.1 X hXs hbl hE h1 h2 ht hI hR hl kk)
      · exact x_tsw (v := 10) (tgt := 496) hx hb dL_law_33 ej (by decide) (by decide) (off := 463) (by decide) (by decide) (lc_10 hS.2.2.2.2.2.2.2.2.2.2.1 X hXs hbl hE h1 h2 ht hI hR hl kk)
      · exact x_tsw (v := 11) (tgt := 529) hx hb dL_law_33 ej (by decide) (by decide) (off := 496) (by decide) (by decide) (lc_11 hS.2.2.2.2.2.2.2.2.2.2.2.1 X hXs hbl hE h1 h2 ht hI hR hl kk)
      · exact x_tsw (v := 12) (tgt := 562) hx hb dL_law_33 ej (by decide) (by decide) (off := 529) (by decide) (by decide) (lc_12 hS.2.2.2.2.2.2.2.2.2.2.2.2.1 X hXs hbl hE h1 h2 ht hI hR hl kk)
      · exact x_tsw (v := 13) (tgt := 595) hx hb dL_law_33 ej (by decide) (by decide) (off := 562) (by decide) (by decide) (lc_13 hS.2.2.2.2.2.2.2.2.2.2.2.2.2.1 X hXs hbl hE h1 ht hI hR hl kk)
      · exact x_tsw (v := 14) (tgt := 618) hx hb dL_law_33 ej (by decide) (by decide) (off := 585) (by decide) (by decide) (lc_14 hS.2.2.2.2.2.2.2.2.2.2.2.2.2.2.1 X hXs hbl hE h1 ht hI hR hl kk)
      · exact x_tsw (v := 15) (tgt := 641) hx hb dL_law_33 ej (by decide) (by decide) (off := 608) (by decide) (by decide) (lc_15 hS.2.2.2.2.2.2.2.2.2.2.2.2.2.2.2.1 X hXs hbl hE h1 h2 h3 ht hI hR hl kk)
      · exact x_tsw (v := 16) (tgt := 684) hx hb dL_law_33 ej (by decide) (by decide) (off := 651) (by decide) (by decide) (lc_16 hS.2.2.2.2.2.2.2.2.2.2.2.2.2.2.2.2.1 X hXs hbl hE h1 h2 h3 h4 ht hI hR hl kk)
      · exact x_tsw (v := 17) (tgt := 737) hx hb dL_law_33 ej (by decide) (by decide) (off := 704) (by decide) (by decide) (lc_17 hS.2.2.2.2.2.2.2.2.2.2.2.2.2.2.2.2.2.1 X hXs hbl hE h1 h2 h3 ht hI hR hl kk)
      · exact x_tsw (v := 18) (tgt := 780) hx hb dL_law_33 ej (by decide) (by decide) (off := 747) (by decide) (by decide) (lc_18 hS.2.2.2.2.2.2.2.2.2.2.2.2.2.2.2.2.2.2.1 X hXs hbl hE h1 ht hI hR hl kk)
      · exact x_tsw (v := 19) (tgt := 803) hx hb dL_law_33 ej (by decide) (by decide) (off := 770) (by decide) (by decide) (lc_19 hS.2.2.2.2.2.2.2.2.2.2.2.2.2.2.2.2.2.2.2.1 X hXs hbl hE h1 h2 ht hI hR hl kk)
      · exact x_tsw (v := 20) (tgt := 836) hx hb dL_law_33 ej (by decide) (by decide) (off := 803) (by decide) (by decide) (lc_20 hS.2.2.2.2.2.2.2.2.2.2.2.2.2.2.2.2.2.2.2.2.1 X hXs hbl hE ht hI hR hl kk)
      · exact x_tsw (v := 21) (tgt := 849) hx hb dL_law_33 ej (by decide) (by decide) (off := 816) (by decide) (by decide) (lc_21 hS.2.2.2.2.2.2.2.2.2.2.2.2.2.2.2.2.2.2.2.2.2.1 X hXs hbl hE h1 ht hI hR hl kk)
      · exact x_tsw (v := 22) (tgt := 872) hx hb dL_law_33 ej (by decide) (by decide) (off := 839) (by decide) (by decide) (lc_22 hS.2.2.2.2.2.2.2.2.2.2.2.2.2.2.2.2.2.2.2.2.2.2.1 X hXs hbl hE h1 ht hI hR hl kk)
      · exact x_tsw (v := 23) (tgt := 895) hx hb dL_law_33 ej (by decide) (by decide) (off := 862) (by decide) (by decide) (lc_23 hS.2.2.2.2.2.2.2.2.2.2.2.2.2.2.2.2.2.2.2.2.2.2.2.1 X hXs hbl hE h1 h2 ht hI hR hl kk)
      · exact x_tsw (v := 24) (tgt := 928) hx hb dL_law_33 ej (by decide) (by decide) (off := 895) (by decide) (by decide) (lc_24 hS.2.2.2.2.2.2.2.2.2.2.2.2.2.2.2.2.2.2.2.2.2.2.2.2.1 X hXs hbl hE ht hI hR hl kk)
      · exact x_tsw (v := 25) (tgt := 941) hx hb dL_law_33 ej (by decide) (by decide) (off := 908) (by decide) (by decide) (lc_25 hS.2.2.2.2.2.2.2.2.2.2.2.2.2.2.2.2.2.2.2.2.2.2.2.2.2.1 X hXs hbl hE h1 ht hI hR hl kk)
      · exact x_tsw (v := 26) (tgt := 964) hx hb dL_law_33 ej (by decide) (by decide) (off := 931) (by decide) (by decide) (lc_26 hS.2.2.2.2.2.2.2.2.2.2.2.2.2.2.2.2.2.2.2.2.2.2.2.2.2.2.1 X hXs hbl hE h1 ht hI hR hl kk)
      · exact x_tsw (v := 27) (tgt := 987) hx hb dL_law_33 ej (by decide) (by decide) (off := 954) (by decide) (by decide) (lc_27 hS.2.2.2.2.2.2.2.2.2.2.2.2.2.2.2.2.2.2.2.2.2.2.2.2.2.2.2.1 X hXs hbl hE h1 h2 ht hI hR hl kk)
      · exact x_tsw (v := 28) (tgt := 1020) hx hb dL_law_33 ej (by decide) (by decide) (off := 987) (by decide) (by decide) (lc_28 hS.2.2.2.2.2.2.2.2.2.2.2.2.2.2.2.2.2.2.2.2.2.2.2.2.2.2.2.2.1 X hXs hbl hE h1 h2 h3 ht hI hR hl kk)
      · exact x_tsw (v := 29) (tgt := 1063) hx hb dL_law_33 ej (by decide) (by decide) (off := 1030) (by decide) (by decide) (lc_29 hS.2.2.2.2.2.2.2.2.2.2.2.2.2.2.2.2.2.2.2.2.2.2.2.2.2.2.2.2.2.1 X hXs hbl hE ht hI hR hl kk)
      · exact x_tsw (v := 30) (tgt := 1076) hx hb dL_law_33 ej (by decide) (by decide) (off := 1043) (by decide) (by decide) (lc_30 hS.2.2.2.2.2.2.2.2.2.2.2.2.2.2.2.2.2.2.2.2.2.2.2.2.2.2.2.2.2.2.1 X hXs hbl hE h1 h2 ht hI hR hl kk)
      · exact x_tsw (v := 31) (tgt := 1109) hx hb dL_law_33 ej (by decide) (by decide) (off := 1076) (by decide) (by decide) (lc_31 hS.2.2.2.2.2.2.2.2.2.2.2.2.2.2.2.2.2.2.2.2.2.2.2.2.2.2.2.2.2.2.2 X hXs hbl hE h1 ht hI hR hl kk)
def MZ : Mem := (fun _ _ => 0, fun _ _ => 0)
/-- the memory of two new objects -/
def MI0 : Mem := (sI (sI (sI (sI (sI (sI (sI (sI (sI (sL (sI (sI (sI (sI (sI (sI (sI (sI MZ 21 6 (-1 : Int32)) 21 7 (-1 : Int32)) 21 8 (-1 : Int32)) 26 5 (-1 : Int32)) 34 (ix (0 : Int32)) (-1 : Int32)) 34 (ix (1 : Int32)) (-1 : Int32)) 34 (ix (2 : Int32)) (-1 : Int32)) 30 7 (-1 : Int32)) 35 4 (1 : Int64)) 35 6 (-1 : Int32)) 36 7 (-1 : Int32)) 36 8 (-1 : Int32)) 36 9 (-1 : Int32)) 40 6 (-1 : Int32)) 40 7 (-1 : Int32)) 40 8 (-1 : Int32)) 40 9 (-1 : Int32)) 40 10 (-1 : Int32))
theorem MZ_zf (n : Nat) : zf MZ n := fun _ _ _ => ⟨rfl, rfl⟩
set_option maxHeartbeats 8000000 in
set_option maxRecDepth 100000 in
theorem start_of {Inv : Nat → Bool → Mem → Prop} (hS : STEPS Inv) (hI0 : Inv 0 false MI0) {p : Program} {e : Env} {s : State} {m : MethodId} {below : List Frame} {meth : Method} {c : Code} (l : Launch) {b L : Nat} {xs : Nat → Int32} (hL : L ≤ 3072) (C0 : lw_At p s m meth c b L xs) : W p l e room_1 s m #[Value.ref b] below meth c s.heap [] 0 0 (lw_Z below #[Value.ref b] s) (entryFrame m ([Value.ref b] : List Value).toArray 4) := by
  obtain ⟨E, hEs, X⟩ := law_E C0
  obtain ⟨-, -, -, -, -, -, hXs, hbl, -, -⟩ := C0
  obtain ⟨hx, hb, hr, hml, hown, hts, hK, hN, hO, hlk, hbs⟩ := id X
  have hE : ¬ fr E b := by show ¬ eB E ≤ b; rw [hEs]; exact Nat.not_le.mpr hbl
  have hl := lv_entry ([.ref b]) (n := 4) (Nat.le_of_ble_eq_true rfl)
  rw [lg_entry_eq]
  generalize (lg_sl ([.ref b]) ++ List.replicate (4 - (lg_sl ([.ref b])).length) Slot.unset).toArray = ls at hl ⊢
  have hl : lv_has ls 4 [(0, .ref b)] := hl
  have hR : Rl E (fun _ => ((9, 0, []) : Sh)) 0 s.heap MZ s.heap [] := ⟨fun k x hx => absurd hx (by simp [wd]), va_S.rf, hEs.symm⟩
  refine x_new hx hb hown hts hK hR (MZ_zf 0) kX10 cl_L_7 is_X10 in_X10 (by decide) (Nat.le_of_ble_eq_true rfl) (Nat.le_of_ble_eq_true rfl) dL_law_0 (fun H hR => ?_)
  have hR : Rl E _ 1 s.heap MZ H _ := hR
  refine lv_dup hx hb dL_law_3 rfl ?_
  refine x_callI (As := []) (rest := [.ref (eB E + 0)]) X hR (ctX10_init_0 (MZ_zf 1)) ml_L_9 im_X10_init in_X10 co_X10_init yo_X10_init rfl ⟨Nat.le_of_ble_eq_true rfl, Nat.le_of_ble_eq_true rfl⟩ rfl hl.1 rfl (Nat.le_of_ble_eq_true rfl) dL_law_4 ⟨Nat.le_of_ble_eq_true rfl, Nat.le_of_ble_eq_true rfl⟩ (fun H locs hR => ?_)
  have hR : Rl E _ 47 s.heap MI0 H locs := hR
  have hz : zf MI0 47 := zzX10_init_0 (MZ_zf 47)
  refine lv_astore_n (lv' := [(1, .ref (eB E + 0)), (0, .ref b)]) hx hb dL_law_7 rfl hl (by decide) rfl (fun ls hl => ?_)
  refine x_new hx hb hown hts hK hR hz kX11 cl_L_10 is_X11 in_X11 (by decide) (Nat.le_of_ble_eq_true rfl) (Nat.le_of_ble_eq_true rfl) dL_law_8 (fun H hR => ?_)
  have hR : Rl E _ 48 s.heap MI0 H _ := hR
  have hz := zf.up (n1 := 48) hz (by decide)
  refine lv_dup hx hb dL_law_11 rfl ?_
  refine x_callI (As := []) (rest := [.ref (eB E + 47)]) X hR (ctX11_init_47 hz) ml_L_12 im_X11_init in_X11 co_X11_init yo_X11_init rfl ⟨Nat.le_of_ble_eq_true rfl, Nat.le_of_ble_eq_true rfl⟩ rfl hl.1 rfl (Nat.le_of_ble_eq_true rfl) dL_law_12 ⟨Nat.le_of_ble_eq_true rfl, Nat.le_of_ble_eq_true rfl⟩ (fun H locs hR => ?_)
  have hR : Rl E (sh_ false) (nn false) s.heap MI0 H locs := Rl.re (n := 141) hR (by decide +kernel) (fun _ _ => ⟨rfl, rfl⟩)
  refine lv_astore_n (lv' := [(2, .ref (eB E + 47)), (1, .ref (eB E + 0)), (0, .ref b)]) hx hb dL_law_15 rfl hl (by decide) rfl (fun ls hl => ?_)
  refine lv_iconst (v := 0) hx hb dL_law_16 (by decide) ?_
  refine lv_istore_n (lv' := [(3, .int 0), (2, .ref (eB E + 47)), (1, .ref (eB E + 0)), (0, .ref b)]) hx hb dL_law_17 rfl hl (by decide) rfl (fun ls hl => ?_)
  exact law_loop hS hL X hXs hbl hE hEs (L + 1) 0 (Nat.zero_le _) (by omega) false MI0 H locs ls hI0 hR (lv_sub hl [3, 2, 1, 0] rfl)

