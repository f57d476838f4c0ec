section WK
variable {p : Program} {l : Launch} {e : Env} {s : State} {m : MethodId} {args : Array Value} {below : List Frame} {meth : Method} {c : Code} {E : Ge} {b : Bool}
def fX10_beats_22 (M : Mem) : Option (Int32 × Mem) := some ((0 : Int32), M)
def fX10_beats (x1 : Int32) (x2 : Int32) (M : Mem) : Option (Int32 × Mem) := (fX8_hasPlace_t M x1).bind (fun q5 => (if q5 = 0 then fX10_beats_22 M else (fX8_hasPlace_t M x2).bind (fun q16 => (if q16 = 0 then fX10_beats_22 M else (fX0_refresh M).bind (fun q28 => (fX0_isBeaten q28 x2 x1).bind (fun q37 => some ((q37 &&& 1), q28)))))))
set_option maxHeartbeats 4000000 in
set_option maxRecDepth 100000 in
theorem wX10_beats_22 {r : Int32} {M1 : Mem} (X : CX E p s m args c meth cX10_beats 3 (some .boolean) RX10) : ∀ {M : Mem} {H : Heap} {locs : List Loc} {ls : Array Slot}, fX10_beats_22 M = some (r, M1) → Rl E (sh_ b) (nn b) s.heap M H locs → lv_has ls 3 [] → W p l e (rm 6 0 0) s m args below meth c H locs 0 0 (MQ below (qq E (some (.int r)) (sh_ b) (nn b) M1) args s 0 0 (fr E)) (F0 m 22 ls []) := by
  obtain ⟨hx, hb, hr, hml, hown, hts, hK, hN, hO, hlk, hbs⟩ := id X
  intro M H locs ls hf hR hl
  unfold fX10_beats_22 at hf
  refine lv_iconst (v := 0) hx hb dX10_beats_22 (by decide) ?_
  cases hf
  exact x_zret hx hb hr hlk hR (by decide) dX10_beats_23
set_option maxHeartbeats 4000000 in
set_option maxRecDepth 100000 in
theorem wX10_beats_0 {r : Int32} {M1 : Mem} (X : CX E p s m args c meth cX10_beats 3 (some .boolean) RX10) : ∀ {x1 : Int32} {x2 : Int32} {M : Mem} {H : Heap} {locs : List Loc} {ls : Array Slot}, fX10_beats x1 x2 M = some (r, M1) → Rl E (sh_ b) (nn b) s.heap M H locs → lv_has ls 3 [(0, .ref (eB E + 0)), (1, .int x1), (2, .int x2)] → W p l e (rm 6 0 0) s m args below meth c H locs 0 0 (MQ below (qq E (some (.int r)) (sh_ b) (nn b) M1) args s 0 0 (fr E)) (F0 m 0 ls []) := by
  obtain ⟨hx, hb, hr, hml, hown, hts, hK, hN, hO, hlk, hbs⟩ := id X
  intro x1 x2 M H locs ls hf hR hl
  unfold fX10_beats at hf
  refine lv_aload_n hx hb dX10_beats_0 rfl (lv_at hl 0 rfl) ?_
  refine x_get hx hb hown hts hK hR kX10 (z_0 b) (j := 0) (by decide) fl_X10_12 (v := .ref (eB E + 1)) rfl dX10_beats_1 ?_
  refine lv_iload_n hx hb dX10_beats_4 rfl (lv_at hl 1 rfl) ?_
  obtain ⟨q5, c5, hf⟩ := br_b hf
  refine x_callV (k := 1) (As := [.int x1]) (rest := []) (st1 := [.int q5]) X hR (ctX8_hasPlace_t c5) ml_X10_127 im_X8_hasPlace se_X8_hasPlace in_X8 co_X8_hasPlace yo_X8_hasPlace rfl kX8 (z_1 b) (rm_ok (by decide) (by decide)) rfl hl.1 rfl rfl (Nat.le_of_ble_eq_true rfl) dX10_beats_5 ⟨Nat.zero_le _, Nat.zero_le _⟩ (fun H locs hR => ?_)
  refine lv_if_eq (tgt := 22) hx hb dX10_beats_8 (by decide) (fun q8 => ?_) (fun q8 => ?_)
  · have hf := (br_if hf).1 q8
    exact wX10_beats_22 X hf hR (lv_sub hl [] rfl)
  · have hf := (br_if hf).2 q8
    refine lv_aload_n hx hb dX10_beats_11 rfl (lv_at hl 0 rfl) ?_
    refine x_get hx hb hown hts hK hR kX10 (z_0 b) (j := 0) (by decide) fl_X10_12 (v := .ref (eB E + 1)) rfl dX10_beats_12 ?_
    refine lv_iload_n hx hb dX10_beats_15 rfl (lv_at hl 2 rfl) ?_
    obtain ⟨q16, c16, hf⟩ := br_b hf
    refine x_callV (k := 1) (As := [.int x2]) (rest := []) (st1 := [.int q16]) X hR (ctX8_hasPlace_t c16) ml_X10_127 im_X8_hasPlace se_X8_hasPlace in_X8 co_X8_hasPlace yo_X8_hasPlace rfl kX8 (z_1 b) (rm_ok (by decide) (by decide)) rfl hl.1 rfl rfl (Nat.le_of_ble_eq_true rfl) dX10_beats_16 ⟨Nat.zero_le _, Nat.zero_le _⟩ (fun H locs hR => ?_)
    refine lv_if_ne (tgt := 24) hx hb dX10_beats_19 (by decide) (fun q19 => ?_) (fun q19 => ?_)
    · have hf := (br_if hf).2 q19
      refine lv_aload_n hx hb dX10_beats_24 rfl (lv_at hl 0 rfl) ?_
      refine x_get hx hb hown hts hK hR kX10 (z_0 b) (j := 2) (by decide) fl_X10_28 (v := .ref (eB E + 21)) rfl dX10_beats_25 ?_
      obtain ⟨q28, c28, hf⟩ := br_b hf
      refine x_callV (k := 21) (As := []) (rest := []) (st1 := []) X hR (ctX0_refresh c28) ml_X10_151 im_X0_refresh se_X0_refresh in_X0 co_X0_refresh yo_X0_refresh rfl kX0 (z_21 b) (rm_ok (by decide) (by decide)) rfl hl.1 rfl rfl (Nat.le_of_ble_eq_true rfl) dX10_beats_28 ⟨Nat.zero_le _, Nat.zero_le _⟩ (fun H locs hR => ?_)
      refine lv_aload_n hx hb dX10_beats_31 rfl (lv_at hl 0 rfl) ?_
      refine x_get hx hb hown hts hK hR kX10 (z_0 b) (j := 2) (by decide) fl_X10_28 (v := .ref (eB E + 21)) rfl dX10_beats_32 ?_
      refine lv_iload_n hx hb dX10_beats_35 rfl (lv_at hl 2 rfl) ?_
      refine lv_iload_n hx hb dX10_beats_36 rfl (lv_at hl 1 rfl) ?_
      obtain ⟨q37, c37, hf⟩ := br_b hf
      refine x_callV (k := 21) (As := [.int x2, .int x1]) (rest := []) (st1 := [.int q37]) X hR (ctX0_isBeaten c37) ml_X10_158 im_X0_isBeaten se_X0_isBeaten in_X0 co_X0_isBeaten yo_X0_isBeaten rfl kX0 (z_21 b) (rm_ok (by decide) (by decide)) rfl hl.1 rfl rfl (Nat.le_of_ble_eq_true rfl) dX10_beats_37 ⟨Nat.zero_le _, Nat.zero_le _⟩ (fun H locs hR => ?_)
      cases hf
      exact x_zret hx hb hr hlk hR rfl dX10_beats_40
    · have hf := (br_if hf).1 q19
      exact wX10_beats_22 X hf hR (lv_sub hl [] rfl)
theorem ctX10_beats {l : Launch} {E : Ge} {b : Bool} {M : Mem} {x1 : Int32} {x2 : Int32} {r : Int32} {M1 : Mem} (h : fX10_beats x1 x2 M = some (r, M1)) : CT l E yX10_beats cX10_beats 3 (some .boolean) 6 0 0 [.ref (eB E + 0), .int x1, .int x2] (some (.int r)) (sh_ b) (nn b) M (sh_ b) (nn b) M1 := by
  refine met_of (by decide) (Nat.le_of_ble_eq_true rfl) ?_
  intro p e s m args below meth c X _ hR ls hl
  exact wX10_beats_0 X h hR hl
def fX10_best_19 (M : Mem) : Option (Int32 × Mem) := some ((-1 : Int32), M)
def fX10_best_49 (s0 : Int32) (M : Mem) : Option (Int32 × Mem) := some (s0, M)
def fX10_best (x1 : Int32) (M : Mem) : Option (Int32 × Mem) := (if (M.1 1 0) = 0 then fX10_best_19 M else (if x1 < 0 then fX10_best_19 M else (if x1 ≤ (1 : Int32) then (fX0_refresh M).bind (fun q25 => (if x1 = 0 then (fX0_reachingAll q25).bind (fun q36 => fX10_best_49 (q36.1) (q36.2)) else (fX0_uncovered q25).bind (fun q46 => fX10_best_49 q46 q25))) else fX10_best_19 M)))
set_option maxHeartbeats 4000000 in
set_option maxRecDepth 100000 in
theorem wX10_best_19 {r : Int32} {M1 : Mem} (X : CX E p s m args c meth cX10_best 2 (some .int) RX10) : ∀ {M : Mem} {H : Heap} {locs : List Loc} {ls : Array Slot}, fX10_best_19 M = some (r, M1) → Rl E (sh_ b) (nn b) s.heap M H locs → lv_has ls 2 [] → W p l e (rm 6 0 0) s m args below meth c H locs 0 0 (MQ below (qq E (some (.int r)) (sh_ b) (nn b) M1) args s 0 0 (fr E)) (F0 m 19 ls []) := by
  obtain ⟨hx, hb, hr, hml, hown, hts, hK, hN, hO, hlk, hbs⟩ := id X
  intro M H locs ls hf hR hl
  unfold fX10_best_19 at hf
  refine lv_iconst (v := -1) hx hb dX10_best_19 (by decide) ?_
  cases hf
  exact x_iret hx hb hr hlk hR dX10_best_20
set_option maxHeartbeats 4000000 in
set_option maxRecDepth 100000 in
theorem wX10_best_49 {r : Int32} {M1 : Mem} (X : CX E p s m args c meth cX10_best 2 (some .int) RX10) : ∀ {s0 : Int32} {M : Mem} {H : Heap} {locs : List Loc} {ls : Array Slot}, fX10_best_49 s0 M = some (r, M1) → Rl E (sh_ b) (nn b) s.heap M H locs → lv_has ls 2 [] → W p l e (rm 6 0 0) s m args below meth c H locs 0 0 (MQ below (qq E (some (.int r)) (sh_ b) (nn b) M1) args s 0 0 (fr E)) (F0 m 49 ls [.int s0]) := by
  obtain ⟨hx, hb, hr, hml, hown, hts, hK, hN, hO, hlk, hbs⟩ := id X
  intro s0 M H locs ls hf hR hl
  unfold fX10_best_49 at hf
  cases hf
  exact x_iret hx hb hr hlk hR dX10_best_49
set_option maxHeartbeats 4000000 in
set_option maxRecDepth 100000 in
theorem wX10_best_0 {r : Int32} {M1 : Mem} (X : CX E p s m args c meth cX10_best 2 (some .int) RX10) : ∀ {x1 : Int32} {M : Mem} {H : Heap} {locs : List Loc} {ls : Array Slot}, fX10_best x1 M = some (r, M1) → Rl E (sh_ b) (nn b) s.heap M H locs → lv_has ls 2 [(0, .ref (eB E + 0)), (1, .int x1)] → W p l e (rm 6 0 0) s m args below meth c H locs 0 0 (MQ below (qq E (some (.int r)) (sh_ b) (nn b) M1) args s 0 0 (fr E)) (F0 m 0 ls []) := by
  obtain ⟨hx, hb, hr, hml, hown, hts, hK, hN, hO, hlk, hbs⟩ := id X
  intro x1 M H locs ls hf hR hl
  unfold fX10_best at hf
  refine lv_aload_n hx hb dX10_best_0 rfl (lv_at hl 0 rfl) ?_
  refine x_get hx hb hown hts hK hR kX10 (z_0 b) (j := 0) (by decide) fl_X10_12 (v := .ref (eB E + 1)) rfl dX10_best_1 ?_
  refine x_get hx hb hown hts hK hR kX8 (z_1 b) (j := 0) (by decide) fl_X10_101 (v := .int (M.1 1 0)) rfl dX10_best_4 ?_
  refine lv_if_eq (tgt := 19) hx hb dX10_best_7 (by decide) (fun q7 => ?_) (fun q7 => ?_)
  · have hf := (br_if hf).1 q7
    exact wX10_best_19 X hf hR (lv_sub hl [] rfl)
  · have hf := (br_if hf).2 q7
    refine lv_iload_n hx hb dX10_best_10 rfl (lv_at hl 1 rfl) ?_
    refine lv_if_lt (tgt := 19) hx hb dX10_best_11 (by decide) (fun q11 => ?_) (fun q11 => ?_)
    · have hf := (br_if hf).1 q11
      exact wX10_best_19 X hf hR (lv_sub hl [] rfl)
    · have hf := (br_if hf).2 q11
      refine lv_iload_n hx hb dX10_best_14 rfl (lv_at hl 1 rfl) ?_
      refine lv_iconst (v := 1) hx hb dX10_best_15 (by decide) ?_
      refine lv_icmp_le (tgt := 21) hx hb dX10_best_16 (by decide) (fun q16 => ?_) (fun q16 => ?_)
      · have hf := (br_if hf).1 q16
        refine lv_aload_n hx hb dX10_best_21 rfl (lv_at hl 0 rfl) ?_
        refine x_get hx hb hown hts hK hR kX10 (z_0 b) (j := 2) (by decide) fl_X10_28 (v := .ref (eB E + 21)) rfl dX10_best_22 ?_
        obtain ⟨q25, c25, hf⟩ := br_b hf
        refine x_callV (k := 21) (As := []) (rest := []) (st1 := []) X hR (ctX0_refresh c25) ml_X10_151 im_X0_refresh se_X0_refresh in_X0 co_X0_refresh yo_X0_refresh rfl kX0 (z_21 b) (rm_ok (by decide) (by decide)) rfl hl.1 rfl rfl (Nat.le_of_ble_eq_true rfl) dX10_best_25 ⟨Nat.zero_le _, Nat.zero_le _⟩ (fun H locs hR => ?_)
        refine lv_iload_n hx hb dX10_best_28 rfl (lv_at hl 1 rfl) ?_
        refine lv_if_ne (tgt := 42) hx hb dX10_best_29 (by decide) (fun q29 => ?_) (fun q29 => ?_)
        · have hf := (br_if hf).2 q29
          refine lv_aload_n hx hb dX10_best_42 rfl (lv_at hl 0 rfl) ?_
          refine x_get hx hb hown hts hK hR kX10 (z_0 b) (j := 2) (by decide) fl_X10_28 (v := .ref (eB E + 21)) rfl dX10_best_43 ?_
          obtain ⟨q46, c46, hf⟩ := br_b hf
          refine x_callV (k := 21) (As := []) (rest := []) (st1 := [.int q46]) X hR (ctX0_uncovered c46) ml_X10_238 im_X0_uncovered se_X0_uncovered in_X0 co_X0_uncovered yo_X0_uncovered rfl kX0 (z_21 b) (rm_ok (by decide) (by decide)) rfl hl.1 rfl rfl (Nat.le_of_ble_eq_true rfl) dX10_best_46 ⟨Nat.zero_le _, Nat.zero_le _⟩ (fun H locs hR => ?_)
          exact wX10_best_49 X hf hR (lv_sub hl [] rfl)
        · have hf := (br_if hf).1 q29
          refine lv_aload_n hx hb dX10_best_32 rfl (lv_at hl 0 rfl) ?_
          refine x_get hx hb hown hts hK hR kX10 (z_0 b) (j := 2) (by decide) fl_X10_28 (v := .ref (eB E + 21)) rfl dX10_best_33 ?_
          obtain ⟨q36, c36, hf⟩ := br_b hf
          refine x_callV (k := 21) (As := []) (rest := []) (st1 := [.int q36.1]) X hR (ctX0_reachingAll c36) ml_X10_235 im_X0_reachingAll se_X0_reachingAll in_X0 co_X0_reachingAll yo_X0_reachingAll rfl kX0 (z_21 b) (rm_ok (by decide) (by decide)) rfl hl.1 rfl rfl (Nat.le_of_ble_eq_true rfl) dX10_best_36 ⟨Nat.zero_le _, Nat.zero_le _⟩ (fun H locs hR => ?_)
          refine lv_goto (tgt := 49) hx hb dX10_best_39 (by decide) ?_
          exact wX10_best_49 X hf hR (lv_sub hl [] rfl)
      · have hf := (br_if hf).2 q16
        exact wX10_best_19 X hf hR (lv_sub hl [] rfl)
theorem ctX10_best {l : Launch} {E : Ge} {b : Bool} {M : Mem} {x1 : Int32} {r : Int32} {M1 : Mem} (h : fX10_best x1 M = some (r, M1)) : CT l E yX10_best cX10_best 2 (some .int) 6 0 0 [.ref (eB E + 0), .int x1] (some (.int r)) (sh_ b) (nn b) M (sh_ b) (nn b) M1 := by
  refine met_of (by decide) (Nat.le_of_ble_eq_true rfl) ?_
  intro p e s m args below meth c X _ hR ls hl
  exact wX10_best_0 X h hR hl
def fX10_count (x1 : Int32) (M : Mem) : Option (Int32 × Mem) := (if x1 = (0 : Int32) then some ((M.1 1 0), M) else (if x1 = (1 : Int32) then some ((M.1 1 8), M) else (if x1 = (2 : Int32) then some ((M.1 1 7), M) else (if x1 = (3 : Int32) then some ((M.1 45 1), M) else (if x1 = (4 : Int32) then some ((M.1 10 1), M) else (if x1 = (5 : Int32) then (fX0_refresh M).bind (fun q84 => some ((q84.1 21 5), q84)) else some ((-1 : Int32), M)))))))
set_option maxHeartbeats 4000000 in
set_option maxRecDepth 100000 in
theorem wX10_count_0 {r : Int32} {M1 : Mem} (X : CX E p s m args c meth cX10_count 2 (some .int) RX10) : ∀ {x1 : Int32} {M : Mem} {H : Heap} {locs : List Loc} {ls : Array Slot}, fX10_count x1 M = some (r, M1) → Rl E (sh_ b) (nn b) s.heap M H locs → lv_has ls 2 [(0, .ref (eB E + 0)), (1, .int x1)] → W p l e (rm 6 0 0) s m args below meth c H locs 0 0 (MQ below (qq E (some (.int r)) (sh_ b) (nn b) M1) args s 0 0 (fr E)) (F0 m 0 ls []) := by
  obtain ⟨hx, hb, hr, hml, hown, hts, hK, hN, hO, hlk, hbs⟩ := id X
  intro x1 M H locs ls hf hR hl
  unfold fX10_count at hf
  refine lv_iload_n hx hb dX10_count_0 rfl (lv_at hl 1 rfl) ?_
  by_cases q1_0 : x1 = (0 : Int32)
  · have hf := (br_if hf).1 q1_0
    refine x_tsw (v := 0) (tgt := 40) hx hb dX10_count_1 q1_0 (by decide) (by decide) (off := 39) (by decide) (by decide) ?_
    refine lv_aload_n hx hb dX10_count_40 rfl (lv_at hl 0 rfl) ?_
    refine x_get hx hb hown hts hK hR kX10 (z_0 b) (j := 0) (by decide) fl_X10_12 (v := .ref (eB E + 1)) rfl dX10_count_41 ?_
    refine x_get hx hb hown hts hK hR kX8 (z_1 b) (j := 0) (by decide) fl_X10_101 (v := .int (M.1 1 0)) rfl dX10_count_44 ?_
    cases hf
    exact x_iret hx hb hr hlk hR dX10_count_47
  · have hf := (br_if hf).2 q1_0
    by_cases q1_1 : x1 = (1 : Int32)
    · have hf := (br_if hf).1 q1_1
      refine x_tsw (v := 1) (tgt := 48) hx hb dX10_count_1 q1_1 (by decide) (by decide) (off := 47) (by decide) (by decide) ?_
      refine lv_aload_n hx hb dX10_count_48 rfl (lv_at hl 0 rfl) ?_
      refine x_get hx hb hown hts hK hR kX10 (z_0 b) (j := 0) (by decide) fl_X10_12 (v := .ref (eB E + 1)) rfl dX10_count_49 ?_
      refine x_get hx hb hown hts hK hR kX8 (z_1 b) (j := 8) (by decide) fl_X10_140 (v := .int (M.1 1 8)) rfl dX10_count_52 ?_
      cases hf
      exact x_iret hx hb hr hlk hR dX10_count_55
    · have hf := (br_if hf).2 q1_1
      by_cases q1_2 : x1 = (2 : Int32)
      · have hf := (br_if hf).1 q1_2
        refine x_tsw (v := 2) (tgt := 56) hx hb dX10_count_1 q1_2 (by decide) (by decide) (off := 55) (by decide) (by decide) ?_
        refine lv_aload_n hx hb dX10_count_56 rfl (lv_at hl 0 rfl) ?_
        refine x_get hx hb hown hts hK hR kX10 (z_0 b) (j := 0) (by decide) fl_X10_12 (v := .ref (eB E + 1)) rfl dX10_count_57 ?_
        refine x_get hx hb hown hts hK hR kX8 (z_1 b) (j := 7) (by decide) fl_X10_311 (v := .int (M.1 1 7)) rfl dX10_count_60 ?_
        cases hf
        exact x_iret hx hb hr hlk hR dX10_count_63
      · have hf := (br_if hf).2 q1_2
        by_cases q1_3 : x1 = (3 : Int32)
        · have hf := (br_if hf).1 q1_3
          refine x_tsw (v := 3) (tgt := 64) hx hb dX10_count_1 q1_3 (by decide) (by decide) (off := 63) (by decide) (by decide) ?_
          refine lv_aload_n hx hb dX10_count_64 rfl (lv_at hl 0 rfl) ?_
          refine x_get hx hb hown hts hK hR kX10 (z_0 b) (j := 9) (by decide) fl_X10_76 (v := .ref (eB E + 45)) rfl dX10_count_65 ?_
          refine x_get hx hb hown hts hK hR kX5 (z_45 b) (j := 1) (by decide) fl_X10_98 (v := .int (M.1 45 1)) rfl dX10_count_68 ?_
          cases hf
          exact x_iret hx hb hr hlk hR dX10_count_71
        · have hf := (br_if hf).2 q1_3
          by_cases q1_4 : x1 = (4 : Int32)
          · have hf := (br_if hf).1 q1_4
            refine x_tsw (v := 4) (tgt := 72) hx hb dX10_count_1 q1_4 (by decide) (by decide) (off := 71) (by decide) (by decide) ?_
            refine lv_aload_n hx hb dX10_count_72 rfl (lv_at hl 0 rfl) ?_
            refine x_get hx hb hown hts hK hR kX10 (z_0 b) (j := 1) (by decide) fl_X10_19 (v := .ref (eB E + 10)) rfl dX10_count_73 ?_
            refine x_get hx hb hown hts hK hR kX6 (z_10 b) (j := 1) (by decide) fl_X10_80 (v := .int (M.1 10 1)) rfl dX10_count_76 ?_
            cases hf
            exact x_iret hx hb hr hlk hR dX10_count_79
          · have hf := (br_if hf).2 q1_4
            by_cases q1_5 : x1 = (5 : Int32)
            · have hf := (br_if hf).1 q1_5
              refine x_tsw (v := 5) (tgt := 80) hx hb dX10_count_1 q1_5 (by decide) (by decide) (off := 79) (by decide) (by decide) ?_
              refine lv_aload_n hx hb dX10_count_80 rfl (lv_at hl 0 rfl) ?_
              refine x_get hx hb hown hts hK hR kX10 (z_0 b) (j := 2) (by decide) fl_X10_28 (v := .ref (eB E + 21)) rfl dX10_count_81 ?_
              obtain ⟨q84, c84, hf⟩ := br_b hf
              refine x_callV (k := 21) (As := []) (rest := []) (st1 := []) X hR (ctX0_refresh c84) ml_X10_151 im_X0_refresh se_X0_refresh in_X0 co_X0_refresh yo_X0_refresh rfl kX0 (z_21 b) (rm_ok (by decide) (by decide)) rfl hl.1 rfl rfl (Nat.le_of_ble_eq_true rfl) dX10_count_84 ⟨Nat.zero_le _, Nat.zero_le _⟩ (fun H locs hR => ?_)
              refine lv_aload_n hx hb dX10_count_87 rfl (lv_at hl 0 rfl) ?_
              refine x_get hx hb hown hts hK hR kX10 (z_0 b) (j := 2) (by decide) fl_X10_28 (v := .ref (eB E + 21)) rfl dX10_count_88 ?_
              refine x_get hx hb hown hts hK hR kX0 (z_21 b) (j := 5) (by decide) fl_X10_293 (v := .int (q84.1 21 5)) rfl dX10_count_91 ?_
              cases hf
              exact x_iret hx hb hr hlk hR dX10_count_94
            · have hf := (br_if hf).2 q1_5
              refine lv_tableOut (tgt := 95) hx hb dX10_count_1 (by have a0 := lv_neT q1_0 (show (0 : Int32).toInt = 0 from rfl); have a1 := lv_neT q1_1 (show (1 : Int32).toInt = 1 from rfl); have a2 := lv_neT q1_2 (show (2 : Int32).toInt = 2 from rfl); have a3 := lv_neT q1_3 (show (3 : Int32).toInt = 3 from rfl); have a4 := lv_neT q1_4 (show (4 : Int32).toInt = 4 from rfl); have a5 := lv_neT q1_5 (show (5 : Int32).toInt = 5 from rfl); omega) (by decide) ?_
              refine lv_iconst (v := -1) hx hb dX10_count_95 (by decide) ?_
              cases hf
              exact x_iret hx hb hr hlk hR dX10_count_96
theorem ctX10_count {l : Launch} {E : Ge} {b : Bool} {M : Mem} {x1 : Int32} {r : Int32} {M1 : Mem} (h : fX10_count x1 M = some (r, M1)) : CT l E yX10_count cX10_count 2 (some .int) 6 0 0 [.ref (eB E + 0), .int x1] (some (.int r)) (sh_ b) (nn b) M (sh_ b) (nn b) M1 := by
  refine met_of (by decide) (Nat.le_of_ble_eq_true rfl) ?_
  intro p e s m args below meth c X _ hR ls hl
  exact wX10_count_0 X h hR hl
def fX10_doubt_20 (M : Mem) : Option Int32 := some (-1 : Int32)
def fX10_doubt (M : Mem) (x1 : Int32) (x2 : Int32) : Option Int32 := (fX8_hasPlace_t M x1).bind (fun q5 => (if q5 = 0 then fX10_doubt_20 M else (if x2 < 0 then fX10_doubt_20 M else (if x2 ≤ (5 : Int32) then (fX9_verdict M x1 x2).bind (fun q28 => some q28) else fX10_doubt_20 M))))
set_option maxHeartbeats 4000000 in
set_option maxRecDepth 100000 in
theorem wX10_doubt_20 {r : Int32} {M : Mem} (X : CX E p s m args c meth cX10_doubt 3 (some .int) RX10) : ∀ {H : Heap} {locs : List Loc} {ls : Array Slot}, fX10_doubt_20 M = some r → Rl E (sh_ b) (nn b) s.heap M H locs → lv_has ls 3 [] → W p l e (rm 6 0 0) s m args below meth c H locs 0 0 (MQ below (qq E (some (.int r)) (sh_ b) (nn b) M) args s 0 0 (fr E)) (F0 m 20 ls []) := by
  obtain ⟨hx, hb, hr, hml, hown, hts, hK, hN, hO, hlk, hbs⟩ := id X
  intro H locs ls hf hR hl
  unfold fX10_doubt_20 at hf
  refine lv_iconst (v := -1) hx hb dX10_doubt_20 (by decide) ?_
  cases hf
  exact x_iret hx hb hr hlk hR dX10_doubt_21
set_option maxHeartbeats 4000000 in
set_option maxRecDepth 100000 in
theorem wX10_doubt_0 {r : Int32} {M : Mem} (X : CX E p s m args c meth cX10_doubt 3 (some .int) RX10) : ∀ {x1 : Int32} {x2 : Int32} {H : Heap} {locs : List Loc} {ls : Array Slot}, fX10_doubt M x1 x2 = some r → Rl E (sh_ b) (nn b) s.heap M H locs → lv_has ls 3 [(0, .ref (eB E + 0)), (1, .int x1), (2, .int x2)] → W p l e (rm 6 0 0) s m args below meth c H locs 0 0 (MQ below (qq E (some (.int r)) (sh_ b) (nn b) M) args s 0 0 (fr E)) (F0 m 0 ls []) := by
  obtain ⟨hx, hb, hr, hml, hown, hts, hK, hN, hO, hlk, hbs⟩ := id X
  intro x1 x2 H locs ls hf hR hl
  unfold fX10_doubt at hf
  refine lv_aload_n hx hb dX10_doubt_0 rfl (lv_at hl 0 rfl) ?_
  refine x_get hx hb hown hts hK hR kX10 (z_0 b) (j := 0) (by decide) fl_X10_12 (v := .ref (eB E + 1)) rfl dX10_doubt_1 ?_
  refine lv_iload_n hx hb dX10_doubt_4 rfl (lv_at hl 1 rfl) ?_
  obtain ⟨q5, c5, hf⟩ := br_b hf
  refine x_callV (k := 1) (As := [.int x1]) (rest := []) (st1 := [.int q5]) X hR (ctX8_hasPlace_t c5) ml_X10_127 im_X8_hasPlace se_X8_hasPlace in_X8 co_X8_hasPlace yo_X8_hasPlace rfl kX8 (z_1 b) (rm_ok (by decide) (by decide)) rfl hl.1 rfl rfl (Nat.le_of_ble_eq_true rfl) dX10_doubt_5 ⟨Nat.zero_le _, Nat.zero_le _⟩ (fun H locs hR => ?_)
  refine lv_if_eq (tgt := 20) hx hb dX10_doubt_8 (by decide) (fun q8 => ?_) (fun q8 => ?_)
  · have hf := (br_if hf).1 q8
    exact wX10_doubt_20 X hf hR (lv_sub hl [] rfl)
  · have hf := (br_if hf).2 q8
    refine lv_iload_n hx hb dX10_doubt_11 rfl (lv_at hl 2 rfl) ?_
    refine lv_if_lt (tgt := 20) hx hb dX10_doubt_12 (by decide) (fun q12 => ?_) (fun q12 => ?_)
    · have hf := (br_if hf).1 q12
      exact wX10_doubt_20 X hf hR (lv_sub hl [] rfl)
    · have hf := (br_if hf).2 q12
      refine lv_iload_n hx hb dX10_doubt_15 rfl (lv_at hl 2 rfl) ?_
      refine lv_iconst (v := 5) hx hb dX10_doubt_16 (by decide) ?_
      refine lv_icmp_le (tgt := 22) hx hb dX10_doubt_17 (by decide) (fun q17 => ?_) (fun q17 => ?_)
      · have hf := (br_if hf).1 q17
        refine lv_aload_n hx hb dX10_doubt_22 rfl (lv_at hl 0 rfl) ?_
        refine x_get hx hb hown hts hK hR kX10 (z_0 b) (j := 8) (by decide) fl_X10_69 (v := .ref (eB E + 40)) rfl dX10_doubt_23 ?_
        refine lv_iload_n hx hb dX10_doubt_26 rfl (lv_at hl 1 rfl) ?_
        refine lv_iload_n hx hb dX10_doubt_27 rfl (lv_at hl 2 rfl) ?_
        obtain ⟨q28, c28, hf⟩ := br_b hf
        refine x_callV (k := 40) (As := [.int x1, .int x2]) (rest := []) (st1 := [.int q28]) X hR (ctX9_verdict c28) ml_X10_286 im_X9_verdict se_X9_verdict in_X9 co_X9_verdict yo_X9_verdict rfl kX9 (z_40 b) (rm_ok (by decide) (by decide)) rfl hl.1 rfl rfl (Nat.le_of_ble_eq_true rfl) dX10_doubt_28 ⟨Nat.zero_le _, Nat.zero_le _⟩ (fun H locs hR => ?_)
        cases hf
        exact x_iret hx hb hr hlk hR dX10_doubt_31
      · have hf := (br_if hf).2 q17
        exact wX10_doubt_20 X hf hR (lv_sub hl [] rfl)
theorem ctX10_doubt {l : Launch} {E : Ge} {b : Bool} {M : Mem} {x1 : Int32} {x2 : Int32} {r : Int32} (h : fX10_doubt M x1 x2 = some r) : CT l E yX10_doubt cX10_doubt 3 (some .int) 6 0 0 [.ref (eB E + 0), .int x1, .int x2] (some (.int r)) (sh_ b) (nn b) M (sh_ b) (nn b) M := by
  refine met_of (by decide) (Nat.le_of_ble_eq_true rfl) ?_
  intro p e s m args below meth c X _ hR ls hl
  exact wX10_doubt_0 X h hR hl
def fX10_end_15 (M : Mem) : Option (Int32 × Mem) := some ((0 : Int32), M)
def fX10_end (x1 : Int32) (M : Mem) : Option (Int32 × Mem) := (if x1 < 0 then fX10_end_15 M else (if x1 ≤ (M.1 10 1) then nx (sI M 10 1 x1) (fun M22 => some ((1 : Int32), M22)) else fX10_end_15 M))
set_option maxHeartbeats 4000000 in
set_option maxRecDepth 100000 in
theorem wX10_end_15 {r : Int32} {M1 : Mem} (X : CX E p s m args c meth cX10_end 2 (some .boolean) RX10) : ∀ {M : Mem} {H : Heap} {locs : List Loc} {ls : Array Slot}, fX10_end_15 M = some (r, M1) → Rl E (sh_ b) (nn b) s.heap M H locs → lv_has ls 2 [] → W p l e (rm 1 0 0) s m args below meth c H locs 0 0 (MQ below (qq E (some (.int r)) (sh_ b) (nn b) M1) args s 0 0 (fr E)) (F0 m 15 ls []) := by
  obtain ⟨hx, hb, hr, hml, hown, hts, hK, hN, hO, hlk, hbs⟩ := id X
  intro M H locs ls hf hR hl
  unfold fX10_end_15 at hf
  refine lv_iconst (v := 0) hx hb dX10_end_15 (by decide) ?_
  cases hf
  exact x_zret hx hb hr hlk hR (by decide) dX10_end_16
set_option maxHeartbeats 4000000 in
set_option maxRecDepth 100000 in
theorem wX10_end_0 {r : Int32} {M1 : Mem} (X : CX E p s m args c meth cX10_end 2 (some .boolean) RX10) : ∀ {x1 : Int32} {M : Mem} {H : Heap} {locs : List Loc} {ls : Array Slot}, fX10_end x1 M = some (r, M1) → Rl E (sh_ b) (nn b) s.heap M H locs → lv_has ls 2 [(0, .ref (eB E + 0)), (1, .int x1)] → W p l e (rm 1 0 0) s m args below meth c H locs 0 0 (MQ below (qq E (some (.int r)) (sh_ b) (nn b) M1) args s 0 0 (fr E)) (F0 m 0 ls []) := by
  obtain ⟨hx, hb, hr, hml, hown, hts, hK, hN, hO, hlk, hbs⟩ := id X
  intro x1 M H locs ls hf hR hl
  unfold fX10_end at hf
  refine lv_iload_n hx hb dX10_end_0 rfl (lv_at hl 1 rfl) ?_
  refine lv_if_lt (tgt := 15) hx hb dX10_end_1 (by decide) (fun q1 => ?_) (fun q1 => ?_)
  · have hf := (br_if hf).1 q1
    exact wX10_end_15 X hf hR (lv_sub hl [] rfl)
  · have hf := (br_if hf).2 q1
    refine lv_iload_n hx hb dX10_end_4 rfl (lv_at hl 1 rfl) ?_
    refine lv_aload_n hx hb dX10_end_5 rfl (lv_at hl 0 rfl) ?_
    refine x_get hx hb hown hts hK hR kX10 (z_0 b) (j := 1) (by decide) fl_X10_19 (v := .ref (eB E + 10)) rfl dX10_end_6 ?_
    refine x_get hx hb hown hts hK hR kX6 (z_10 b) (j := 1) (by decide) fl_X10_80 (v := .int (M.1 10 1)) rfl dX10_end_9 ?_
    refine lv_icmp_le (tgt := 17) hx hb dX10_end_12 (by decide) (fun q12 => ?_) (fun q12 => ?_)
    · have hf := (br_if hf).1 q12
      refine lv_aload_n hx hb dX10_end_17 rfl (lv_at hl 0 rfl) ?_
      refine x_get hx hb hown hts hK hR kX10 (z_0 b) (j := 1) (by decide) fl_X10_19 (v := .ref (eB E + 10)) rfl dX10_end_18 ?_
      refine lv_iload_n hx hb dX10_end_21 rfl (lv_at hl 1 rfl) ?_
      refine x_puti hx hb hown hts hK hR kX6 (z_10 b) (j := 1) (by decide) fl_X10_80 rfl rfl rfl rfl dX10_end_22 (fun H locs hR => ?_)
      obtain ⟨M22, e22⟩ : ∃ y : Mem, y = (sI M 10 1 x1) := ⟨_, rfl⟩
      have hf := nx_at e22 hf
      have hR : Rl E (sh_ b) (nn b) s.heap M22 H locs := by rw [e22]; exact hR
      refine lv_iconst (v := 1) hx hb dX10_end_25 (by decide) ?_
      cases hf
      exact x_zret hx hb hr hlk hR (by decide) dX10_end_26
    · have hf := (br_if hf).2 q12
      exact wX10_end_15 X hf hR (lv_sub hl [] rfl)
theorem ctX10_end {l : Launch} {E : Ge} {b : Bool} {M : Mem} {x1 : Int32} {r : Int32} {M1 : Mem} (h : fX10_end x1 M = some (r, M1)) : CT l E yX10_end cX10_end 2 (some .boolean) 1 0 0 [.ref (eB E + 0), .int x1] (some (.int r)) (sh_ b) (nn b) M (sh_ b) (nn b) M1 := by
  refine met_of (by decide) (Nat.le_of_ble_eq_true rfl) ?_
  intro p e s m args below meth c X _ hR ls hl
  exact wX10_end_0 X h hR hl
def fX10_fault (M : Mem) : Option (Int32 × Mem) := (fX6_findFault M).bind (fun q4 => some (q4.1, q4.2))
set_option maxHeartbeats 4000000 in
set_option maxRecDepth 100000 in
theorem wX10_fault_0 {r : Int32} {M1 : Mem} (X : CX E p s m args c meth cX10_fault 1 (some .int) RX10) : ∀ {M : Mem} {H : Heap} {locs : List Loc} {ls : Array Slot}, fX10_fault M = some (r, M1) → Rl E (sh_ b) (nn b) s.heap M H locs → lv_has ls 1 [(0, .ref (eB E + 0))] → W p l e (rm 11 0 0) s m args below meth c H locs 0 0 (MQ below (qq E (some (.int r)) (sh_ b) (nn b) M1) args s 0 0 (fr E)) (F0 m 0 ls []) := by
  obtain ⟨hx, hb, hr, hml, hown, hts, hK, hN, hO, hlk, hbs⟩ := id X
  intro M H locs ls hf hR hl
  unfold fX10_fault at hf
  refine lv_aload_n hx hb dX10_fault_0 rfl (lv_at hl 0 rfl) ?_
  refine x_get hx hb hown hts hK hR kX10 (z_0 b) (j := 1) (by decide) fl_X10_19 (v := .ref (eB E + 10)) rfl dX10_fault_1 ?_
  obtain ⟨q4, c4, hf⟩ := br_b hf
  refine x_callV (k := 10) (As := []) (rest := []) (st1 := [.int q4.1]) X hR (ctX6_findFault c4) ml_X10_88 im_X6_findFault se_X6_findFault in_X6 co_X6_findFault yo_X6_findFault rfl kX6 (z_10 b) (rm_ok (by decide) (by decide)) rfl hl.1 rfl rfl (Nat.le_of_ble_eq_true rfl) dX10_fault_4 ⟨Nat.zero_le _, Nat.zero_le _⟩ (fun H locs hR => ?_)
  cases hf
  exact x_iret hx hb hr hlk hR dX10_fault_7
theorem ctX10_fault {l : Launch} {E : Ge} {b : Bool} {M : Mem} {r : Int32} {M1 : Mem} (h : fX10_fault M = some (r, M1)) : CT l E yX10_fault cX10_fault 1 (some .int) 11 0 0 [.ref (eB E + 0)] (some (.int r)) (sh_ b) (nn b) M (sh_ b) (nn b) M1 := by
  refine met_of (by decide) (Nat.le_of_ble_eq_true rfl) ?_
  intro p e s m args below meth c X _ hR ls hl
  exact wX10_fault_0 X h hR hl
def fX10_feed (x1 : Int32) (x2 : Int32) (x3 : Int32) (x4 : Int32) (x5 : Int32) (M : Mem) : Option (Int32 × Mem) := (if (M.1 10 1) ≤ (580 : Int32) then (fX6_append x1 M).bind (fun q20 => (fX6_append x2 q20).bind (fun q28 => (fX6_append x3 q28).bind (fun q36 => (fX6_append x4 q36).bind (fun q45 => (fX6_append x5 q45).bind (fun q54 => some ((q54.1 10 1), q54)))))) else some ((-1 : Int32), M))
set_option maxHeartbeats 4000000 in
set_option maxRecDepth 100000 in
theorem wX10_feed_0 {r : Int32} {M1 : Mem} (X : CX E p s m args c meth cX10_feed 6 (some .int) RX10) : ∀ {x1 : Int32} {x2 : Int32} {x3 : Int32} {x4 : Int32} {x5 : Int32} {M : Mem} {H : Heap} {locs : List Loc} {ls : Array Slot}, fX10_feed x1 x2 x3 x4 x5 M = some (r, M1) → Rl E (sh_ b) (nn b) s.heap M H locs → lv_has ls 6 [(0, .ref (eB E + 0)), (1, .int x1), (2, .int x2), (3, .int x3), (4, .int x4), (5, .int x5)] → W p l e (rm 2 0 0) s m args below meth c H locs 0 0 (MQ below (qq E (some (.int r)) (sh_ b) (nn b) M1) args s 0 0 (fr E)) (F0 m 0 ls []) := by
  obtain ⟨hx, hb, hr, hml, hown, hts, hK, hN, hO, hlk, hbs⟩ := id X
  intro x1 x2 x3 x4 x5 M H locs ls hf hR hl
  unfold fX10_feed at hf
  refine lv_aload_n hx hb dX10_feed_0 rfl (lv_at hl 0 rfl) ?_
  refine x_get hx hb hown hts hK hR kX10 (z_0 b) (j := 1) (by decide) fl_X10_19 (v := .ref (eB E + 10)) rfl dX10_feed_1 ?_
  refine x_get hx hb hown hts hK hR kX6 (z_10 b) (j := 1) (by decide) fl_X10_80 (v := .int (M.1 10 1)) rfl dX10_feed_4 ?_
  refine lv_sipush (v := 580) hx hb dX10_feed_7 (by decide) ?_
  refine lv_icmp_le (tgt := 15) hx hb dX10_feed_10 (by decide) (fun q10 => ?_) (fun q10 => ?_)
  · have hf := (br_if hf).1 q10
    refine lv_aload_n hx hb dX10_feed_15 rfl (lv_at hl 0 rfl) ?_
    refine x_get hx hb hown hts hK hR kX10 (z_0 b) (j := 1) (by decide) fl_X10_19 (v := .ref (eB E + 10)) rfl dX10_feed_16 ?_
    refine lv_iload_n hx hb dX10_feed_19 rfl (lv_at hl 1 rfl) ?_
    obtain ⟨q20, c20, hf⟩ := br_b hf
    refine x_callV (k := 10) (As := [.int x1]) (rest := []) (st1 := []) X hR (ctX6_append c20) ml_X10_84 im_X6_append se_X6_append in_X6 co_X6_append yo_X6_append rfl kX6 (z_10 b) (rm_ok (by decide) (by decide)) rfl hl.1 rfl rfl (Nat.le_of_ble_eq_true rfl) dX10_feed_20 ⟨Nat.zero_le _, Nat.zero_le _⟩ (fun H locs hR => ?_)
    refine lv_aload_n hx hb dX10_feed_23 rfl (lv_at hl 0 rfl) ?_
    refine x_get hx hb hown hts hK hR kX10 (z_0 b) (j := 1) (by decide) fl_X10_19 (v := .ref (eB E + 10)) rfl dX10_feed_24 ?_
    refine lv_iload_n hx hb dX10_feed_27 rfl (lv_at hl 2 rfl) ?_
    obtain ⟨q28, c28, hf⟩ := br_b hf
    refine x_callV (k := 10) (As := [.int x2]) (rest := []) (st1 := []) X hR (ctX6_append c28) ml_X10_84 im_X6_append se_X6_append in_X6 co_X6_append yo_X6_append rfl kX6 (z_10 b) (rm_ok (by decide) (by decide)) rfl hl.1 rfl rfl (Nat.le_of_ble_eq_true rfl) dX10_feed_28 ⟨Nat.zero_le _, Nat.zero_le _⟩ (fun H locs hR => ?_)
    refine lv_aload_n hx hb dX10_feed_31 rfl (lv_at hl 0 rfl) ?_
    refine x_get hx hb hown hts hK hR kX10 (z_0 b) (j := 1) (by decide) fl_X10_19 (v := .ref (eB E + 10)) rfl dX10_feed_32 ?_
    refine lv_iload_n hx hb dX10_feed_35 rfl (lv_at hl 3 rfl) ?_
    obtain ⟨q36, c36, hf⟩ := br_b hf
    refine x_callV (k := 10) (As := [.int x3]) (rest := []) (st1 := []) X hR (ctX6_append c36) ml_X10_84 im_X6_append se_X6_append in_X6 co_X6_append yo_X6_append rfl kX6 (z_10 b) (rm_ok (by decide) (by decide)) rfl hl.1 rfl rfl (Nat.le_of_ble_eq_true rfl) dX10_feed_36 ⟨Nat.zero_le _, Nat.zero_le _⟩ (fun H locs hR => ?_)
    refine lv_aload_n hx hb dX10_feed_39 rfl (lv_at hl 0 rfl) ?_
    refine x_get hx hb hown hts hK hR kX10 (z_0 b) (j := 1) (by decide) fl_X10_19 (v := .ref (eB E + 10)) rfl dX10_feed_40 ?_
    refine lv_iload hx hb dX10_feed_43 (lv_at hl 4 rfl) ?_
    obtain ⟨q45, c45, hf⟩ := br_b hf
    refine x_callV (k := 10) (As := [.int x4]) (rest := []) (st1 := []) X hR (ctX6_append c45) ml_X10_84 im_X6_append se_X6_append in_X6 co_X6_append yo_X6_append rfl kX6 (z_10 b) (rm_ok (by decide) (by decide)) rfl hl.1 rfl rfl (Nat.le_of_ble_eq_true rfl) dX10_feed_45 ⟨Nat.zero_le _, Nat.zero_le _⟩ (fun H locs hR => ?_)
    refine lv_aload_n hx hb dX10_feed_48 rfl (lv_at hl 0 rfl) ?_
    refine x_get hx hb hown hts hK hR kX10 (z_0 b) (j := 1) (by decide) fl_X10_19 (v := .ref (eB E + 10)) rfl dX10_feed_49 ?_
    refine lv_iload hx hb dX10_feed_52 (lv_at hl 5 rfl) ?_
    obtain ⟨q54, c54, hf⟩ := br_b hf
    refine x_callV (k := 10) (As := [.int x5]) (rest := []) (st1 := []) X hR (ctX6_append c54) ml_X10_84 im_X6_append se_X6_append in_X6 co_X6_append yo_X6_append rfl kX6 (z_10 b) (rm_ok (by decide) (by decide)) rfl hl.1 rfl rfl (Nat.le_of_ble_eq_true rfl) dX10_feed_54 ⟨Nat.zero_le _, Nat.zero_le _⟩ (fun H locs hR => ?_)
    refine lv_aload_n hx hb dX10_feed_57 rfl (lv_at hl 0 rfl) ?_
    refine x_get hx hb hown hts hK hR kX10 (z_0 b) (j := 1) (by decide) fl_X10_19 (v := .ref (eB E + 10)) rfl dX10_feed_58 ?_
    refine x_get hx hb hown hts hK hR kX6 (z_10 b) (j := 1) (by decide) fl_X10_80 (v := .int (q54.1 10 1)) rfl dX10_feed_61 ?_
    cases hf
    exact x_iret hx hb hr hlk hR dX10_feed_64
  · have hf := (br_if hf).2 q10
    refine lv_iconst (v := -1) hx hb dX10_feed_13 (by decide) ?_
    cases hf
    exact x_iret hx hb hr hlk hR dX10_feed_14
theorem ctX10_feed {l : Launch} {E : Ge} {b : Bool} {M : Mem} {x1 : Int32} {x2 : Int32} {x3 : Int32} {x4 : Int32} {x5 : Int32} {r : Int32} {M1 : Mem} (h : fX10_feed x1 x2 x3 x4 x5 M = some (r, M1)) : CT l E yX10_feed cX10_feed 6 (some .int) 2 0 0 [.ref (eB E + 0), .int x1, .int x2, .int x3, .int x4, .int x5] (some (.int r)) (sh_ b) (nn b) M (sh_ b) (nn b) M1 := by
  refine met_of (by decide) (Nat.le_of_ble_eq_true rfl) ?_
  intro p e s m args below meth c X _ hR ls hl
  exact wX10_feed_0 X h hR hl
def fX10_join (x1 : Int32) (M : Mem) : Option (Int32 × Mem) := (fX8_hasPlace_t M x1).bind (fun q5 => (if q5 = 0 then some ((-1 : Int32), M) else (fX0_refresh M).bind (fun q17 => (fX9_fewestJoined x1 q17).bind (fun q25 => some (q25.1, q25.2)))))
set_option maxHeartbeats 4000000 in
set_option maxRecDepth 100000 in
theorem wX10_join_0 {r : Int32} {M1 : Mem} (X : CX E p s m args c meth cX10_join 2 (some .int) RX10) : ∀ {x1 : Int32} {M : Mem} {H : Heap} {locs : List Loc} {ls : Array Slot}, fX10_join x1 M = some (r, M1) → Rl E (sh_ b) (nn b) s.heap M H locs → lv_has ls 2 [(0, .ref (eB E + 0)), (1, .int x1)] → W p l e (rm 7 0 0) s m args below meth c H locs 0 0 (MQ below (qq E (some (.int r)) (sh_ b) (nn b) M1) args s 0 0 (fr E)) (F0 m 0 ls []) := by
  obtain ⟨hx, hb, hr, hml, hown, hts, hK, hN, hO, hlk, hbs⟩ := id X
  intro x1 M H locs ls hf hR hl
  unfold fX10_join at hf
  refine lv_aload_n hx hb dX10_join_0 rfl (lv_at hl 0 rfl) ?_
  refine x_get hx hb hown hts hK hR kX10 (z_0 b) (j := 0) (by decide) fl_X10_12 (v := .ref (eB E + 1)) rfl dX10_join_1 ?_
  refine lv_iload_n hx hb dX10_join_4 rfl (lv_at hl 1 rfl) ?_
  obtain ⟨q5, c5, hf⟩ := br_b hf
  refine x_callV (k := 1) (As := [.int x1]) (rest := []) (st1 := [.int q5]) X hR (ctX8_hasPlace_t c5) ml_X10_127 im_X8_hasPlace se_X8_hasPlace in_X8 co_X8_hasPlace yo_X8_hasPlace rfl kX8 (z_1 b) (rm_ok (by decide) (by decide)) rfl hl.1 rfl rfl (Nat.le_of_ble_eq_true rfl) dX10_join_5 ⟨Nat.zero_le _, Nat.zero_le _⟩ (fun H locs hR => ?_)
  refine lv_if_ne (tgt := 13) hx hb dX10_join_8 (by decide) (fun q8 => ?_) (fun q8 => ?_)
  · have hf := (br_if hf).2 q8
    refine lv_aload_n hx hb dX10_join_13 rfl (lv_at hl 0 rfl) ?_
    refine x_get hx hb hown hts hK hR kX10 (z_0 b) (j := 2) (by decide) fl_X10_28 (v := .ref (eB E + 21)) rfl dX10_join_14 ?_
    obtain ⟨q17, c17, hf⟩ := br_b hf
    refine x_callV (k := 21) (As := []) (rest := []) (st1 := []) X hR (ctX0_refresh c17) ml_X10_151 im_X0_refresh se_X0_refresh in_X0 co_X0_refresh yo_X0_refresh rfl kX0 (z_21 b) (rm_ok (by decide) (by decide)) rfl hl.1 rfl rfl (Nat.le_of_ble_eq_true rfl) dX10_join_17 ⟨Nat.zero_le _, Nat.zero_le _⟩ (fun H locs hR => ?_)
    refine lv_aload_n hx hb dX10_join_20 rfl (lv_at hl 0 rfl) ?_
    refine x_get hx hb hown hts hK hR kX10 (z_0 b) (j := 8) (by decide) fl_X10_69 (v := .ref (eB E + 40)) rfl dX10_join_21 ?_
    refine lv_iload_n hx hb dX10_join_24 rfl (lv_at hl 1 rfl) ?_
    obtain ⟨q25, c25, hf⟩ := br_b hf
    refine x_callV (k := 40) (As := [.int x1]) (rest := []) (st1 := [.int q25.1]) X hR (ctX9_fewestJoined c25) ml_X10_283 im_X9_fewestJoined se_X9_fewestJoined in_X9 co_X9_fewestJoined yo_X9_fewestJoined rfl kX9 (z_40 b) (rm_ok (by decide) (by decide)) rfl hl.1 rfl rfl (Nat.le_of_ble_eq_true rfl) dX10_join_25 ⟨Nat.zero_le _, Nat.zero_le _⟩ (fun H locs hR => ?_)
    cases hf
    exact x_iret hx hb hr hlk hR dX10_join_28
  · have hf := (br_if hf).1 q8
    refine lv_iconst (v := -1) hx hb dX10_join_11 (by decide) ?_
    cases hf
    exact x_iret hx hb hr hlk hR dX10_join_12
theorem ctX10_join {l : Launch} {E : Ge} {b : Bool} {M : Mem} {x1 : Int32} {r : Int32} {M1 : Mem} (h : fX10_join x1 M = some (r, M1)) : CT l E yX10_join cX10_join 2 (some .int) 7 0 0 [.ref (eB E + 0), .int x1] (some (.int r)) (sh_ b) (nn b) M (sh_ b) (nn b) M1 := by
  refine met_of (by decide) (Nat.le_of_ble_eq_true rfl) ?_
  intro p e s m args below meth c X _ hR ls hl
  exact wX10_join_0 X h hR hl
def fX10_led_27 (M : Mem) : Option (Int32 × Mem) := some ((-1 : Int32), M)
def fX10_led_67 (x4 : Int32) (M : Mem) : Option (Int32 × Mem) := some (x4, M)
def fX10_led_89 (s0 : Int32) (M : Mem) : Option (Int32 × Mem) := some (s0, M)
def fX10_led (x1 : Int32) (x2 : Int32) (x3 : Int32) (M : Mem) : Option (Int32 × Mem) := (fX8_hasPlace_t M x1).bind (fun q5 => (if q5 = 0 then fX10_led_27 M else (fX8_hasPlace_t M x2).bind (fun q16 => (if q16 = 0 then fX10_led_27 M else (if (-1 : Int32) ≤ x3 then (fX0_refresh M).bind (fun q33 => (fX0_measureSteps x2 q33).bind (fun q41 => (if inb x1 20 = true then nx (q41.2.1 25 (ix x1)) (fun v54 => (if v54 = (-1 : Int32) then fX10_led_67 v54 (q41.2) else (if x3 = (-1 : Int32) then fX10_led_67 v54 (q41.2) else (if x3 ≤ v54 then (fX0_walk q41.2 x1 x3).bind (fun q86 => fX10_led_89 q86 (q41.2)) else fX10_led_89 (-1 : Int32) (q41.2))))) else none))) else fX10_led_27 M)))))
set_option maxHeartbeats 4000000 in
set_option maxRecDepth 100000 in
theorem wX10_led_27 {r : Int32} {M1 : Mem} (X : CX E p s m args c meth cX10_led 5 (some .int) RX10) : ∀ {M : Mem} {H : Heap} {locs : List Loc} {ls : Array Slot}, fX10_led_27 M = some (r, M1) → Rl E (sh_ b) (nn b) s.heap M H locs → lv_has ls 5 [] → W p l e (rm 6 0 0) s m args below meth c H locs 0 0 (MQ below (qq E (some (.int r)) (sh_ b) (nn b) M1) args s 0 0 (fr E)) (F0 m 27 ls []) := by
  obtain ⟨hx, hb, hr, hml, hown, hts, hK, hN, hO, hlk, hbs⟩ := id X
  intro M H locs ls hf hR hl
  unfold fX10_led_27 at hf
  refine lv_iconst (v := -1) hx hb dX10_led_27 (by decide) ?_
  cases hf
  exact x_iret hx hb hr hlk hR dX10_led_28
set_option maxHeartbeats 4000000 in
set_option maxRecDepth 100000 in
theorem wX10_led_67 {r : Int32} {M1 : Mem} (X : CX E p s m args c meth cX10_led 5 (some .int) RX10) : ∀ {x4 : Int32} {M : Mem} {H : Heap} {locs : List Loc} {ls : Array Slot}, fX10_led_67 x4 M = some (r, M1) → Rl E (sh_ b) (nn b) s.heap M H locs → lv_has ls 5 [(4, .int x4)] → W p l e (rm 6 0 0) s m args below meth c H locs 0 0 (MQ below (qq E (some (.int r)) (sh_ b) (nn b) M1) args s 0 0 (fr E)) (F0 m 67 ls []) := by
  obtain ⟨hx, hb, hr, hml, hown, hts, hK, hN, hO, hlk, hbs⟩ := id X
  intro x4 M H locs ls hf hR hl
  unfold fX10_led_67 at hf
  refine lv_iload hx hb dX10_led_67 (lv_at hl 0 rfl) ?_
  cases hf
  exact x_iret hx hb hr hlk hR dX10_led_69
set_option maxHeartbeats 4000000 in
set_option maxRecDepth 100000 in
theorem wX10_led_89 {r : Int32} {M1 : Mem} (X : CX E p s m args c meth cX10_led 5 (some .int) RX10) : ∀ {s0 : Int32} {M : Mem} {H : Heap} {locs : List Loc} {ls : Array Slot}, fX10_led_89 s0 M = some (r, M1) → Rl E (sh_ b) (nn b) s.heap M H locs → lv_has ls 5 [] → W p l e (rm 6 0 0) s m args below meth c H locs 0 0 (MQ below (qq E (some (.int r)) (sh_ b) (nn b) M1) args s 0 0 (fr E)) (F0 m 89 ls [.int s0]) := by
  obtain ⟨hx, hb, hr, hml, hown, hts, hK, hN, hO, hlk, hbs⟩ := id X
  intro s0 M H locs ls hf hR hl
  unfold fX10_led_89 at hf
  cases hf
  exact x_iret hx hb hr hlk hR dX10_led_89
set_option maxHeartbeats 4000000 in
set_option maxRecDepth 100000 in
theorem wX10_led_0 {r : Int32} {M1 : Mem} (X : CX E p s m args c meth cX10_led 5 (some .int) RX10) : ∀ {x1 : Int32} {x2 : Int32} {x3 : Int32} {M : Mem} {H : Heap} {locs : List Loc} {ls : Array Slot}, fX10_led x1 x2 x3 M = some (r, M1) → Rl E (sh_ b) (nn b) s.heap M H locs → lv_has ls 5 [(0, .ref (eB E + 0)), (1, .int x1), (2, .int x2), (3, .int x3)] → W p l e (rm 6 0 0) s m args below meth c H locs 0 0 (MQ below (qq E (some (.int r)) (sh_ b) (nn b) M1) args s 0 0 (fr E)) (F0 m 0 ls []) := by
  obtain ⟨hx, hb, hr, hml, hown, hts, hK, hN, hO, hlk, hbs⟩ := id X
  intro x1 x2 x3 M H locs ls hf hR hl
  unfold fX10_led at hf
  refine lv_aload_n hx hb dX10_led_0 rfl (lv_at hl 0 rfl) ?_
  refine x_get hx hb hown hts hK hR kX10 (z_0 b) (j := 0) (by decide) fl_X10_12 (v := .ref (eB E + 1)) rfl dX10_led_1 ?_
  refine lv_iload_n hx hb dX10_led_4 rfl (lv_at hl 1 rfl) ?_
  obtain ⟨q5, c5, hf⟩ := br_b hf
  refine x_callV (k := 1) (As := [.int x1]) (rest := []) (st1 := [.int q5]) X hR (ctX8_hasPlace_t c5) ml_X10_127 im_X8_hasPlace se_X8_hasPlace in_X8 co_X8_hasPlace yo_X8_hasPlace rfl kX8 (z_1 b) (rm_ok (by decide) (by decide)) rfl hl.1 rfl rfl (Nat.le_of_ble_eq_true rfl) dX10_led_5 ⟨Nat.zero_le _, Nat.zero_le _⟩ (fun H locs hR => ?_)
  refine lv_if_eq (tgt := 27) hx hb dX10_led_8 (by decide) (fun q8 => ?_) (fun q8 => ?_)
  · have hf := (br_if hf).1 q8
    exact wX10_led_27 X hf hR (lv_sub hl [] rfl)
  · have hf := (br_if hf).2 q8
    refine lv_aload_n hx hb dX10_led_11 rfl (lv_at hl 0 rfl) ?_
    refine x_get hx hb hown hts hK hR kX10 (z_0 b) (j := 0) (by decide) fl_X10_12 (v := .ref (eB E + 1)) rfl dX10_led_12 ?_
    refine lv_iload_n hx hb dX10_led_15 rfl (lv_at hl 2 rfl) ?_
    obtain ⟨q16, c16, hf⟩ := br_b hf
    refine x_callV (k := 1) (As := [.int x2]) (rest := []) (st1 := [.int q16]) X hR (ctX8_hasPlace_t c16) ml_X10_127 im_X8_hasPlace se_X8_hasPlace in_X8 co_X8_hasPlace yo_X8_hasPlace rfl kX8 (z_1 b) (rm_ok (by decide) (by decide)) rfl hl.1 rfl rfl (Nat.le_of_ble_eq_true rfl) dX10_led_16 ⟨Nat.zero_le _, Nat.zero_le _⟩ (fun H locs hR => ?_)
    refine lv_if_eq (tgt := 27) hx hb dX10_led_19 (by decide) (fun q19 => ?_) (fun q19 => ?_)
    · have hf := (br_if hf).1 q19
      exact wX10_led_27 X hf hR (lv_sub hl [] rfl)
    · have hf := (br_if hf).2 q19
      refine lv_iload_n hx hb dX10_led_22 rfl (lv_at hl 3 rfl) ?_
      refine lv_iconst (v := -1) hx hb dX10_led_23 (by decide) ?_
      refine lv_icmp_ge (tgt := 29) hx hb dX10_led_24 (by decide) (fun q24 => ?_) (fun q24 => ?_)
      · have hf := (br_if hf).1 q24
        refine lv_aload_n hx hb dX10_led_29 rfl (lv_at hl 0 rfl) ?_
        refine x_get hx hb hown hts hK hR kX10 (z_0 b) (j := 2) (by decide) fl_X10_28 (v := .ref (eB E + 21)) rfl dX10_led_30 ?_
        obtain ⟨q33, c33, hf⟩ := br_b hf
        refine x_callV (k := 21) (As := []) (rest := []) (st1 := []) X hR (ctX0_refresh c33) ml_X10_151 im_X0_refresh se_X0_refresh in_X0 co_X0_refresh yo_X0_refresh rfl kX0 (z_21 b) (rm_ok (by decide) (by decide)) rfl hl.1 rfl rfl (Nat.le_of_ble_eq_true rfl) dX10_led_33 ⟨Nat.zero_le _, Nat.zero_le _⟩ (fun H locs hR => ?_)
        refine lv_aload_n hx hb dX10_led_36 rfl (lv_at hl 0 rfl) ?_
        refine x_get hx hb hown hts hK hR kX10 (z_0 b) (j := 2) (by decide) fl_X10_28 (v := .ref (eB E + 21)) rfl dX10_led_37 ?_
        refine lv_iload_n hx hb dX10_led_40 rfl (lv_at hl 2 rfl) ?_
        obtain ⟨q41, c41, hf⟩ := br_b hf
        refine x_callV (k := 21) (As := [.int x2]) (rest := []) (st1 := [.int q41.1]) X hR (ctX0_measureSteps c41) ml_X10_226 im_X0_measureSteps se_X0_measureSteps in_X0 co_X0_measureSteps yo_X0_measureSteps rfl kX0 (z_21 b) (rm_ok (by decide) (by decide)) rfl hl.1 rfl rfl (Nat.le_of_ble_eq_true rfl) dX10_led_41 ⟨Nat.zero_le _, Nat.zero_le _⟩ (fun H locs hR => ?_)
        refine lv_pop hx hb dX10_led_44 rfl ?_
        refine lv_aload_n hx hb dX10_led_45 rfl (lv_at hl 0 rfl) ?_
        refine x_get hx hb hown hts hK hR kX10 (z_0 b) (j := 2) (by decide) fl_X10_28 (v := .ref (eB E + 21)) rfl dX10_led_46 ?_
        refine x_get hx hb hown hts hK hR kX0 (z_21 b) (j := 4) (by decide) fl_X10_229 (v := .ref (eB E + 25)) rfl dX10_led_49 ?_
        refine lv_iload_n hx hb dX10_led_52 rfl (lv_at hl 1 rfl) ?_
        obtain ⟨g53, hf⟩ := br_g hf
        refine x_iald hx hb hK hR (z_25 b) g53 dX10_led_53 ?_
        refine lv_topi (fun v54 e54 => ?_)
        have hf := nx_at e54 hf
        refine lv_istore (lv' := [(4, .int v54), (0, .ref (eB E + 0)), (1, .int x1), (2, .int x2), (3, .int x3)]) hx hb dX10_led_54 hl (by decide) rfl (fun ls hl => ?_)
        refine lv_iload hx hb dX10_led_56 (lv_at hl 0 rfl) ?_
        refine lv_iconst (v := -1) hx hb dX10_led_58 (by decide) ?_
        refine lv_icmp_eq (tgt := 67) hx hb dX10_led_59 (by decide) (fun q59 => ?_) (fun q59 => ?_)
        · have hf := (br_if hf).1 q59
          exact wX10_led_67 X hf hR (lv_sub hl [0] rfl)
        · have hf := (br_if hf).2 q59
          refine lv_iload_n hx hb dX10_led_62 rfl (lv_at hl 4 rfl) ?_
          refine lv_iconst (v := -1) hx hb dX10_led_63 (by decide) ?_
          refine lv_icmp_ne (tgt := 70) hx hb dX10_led_64 (by decide) (fun q64 => ?_) (fun q64 => ?_)
          · have hf := (br_if hf).2 q64
            refine lv_iload_n hx hb dX10_led_70 rfl (lv_at hl 4 rfl) ?_
            refine lv_iload hx hb dX10_led_71 (lv_at hl 0 rfl) ?_
            refine lv_icmp_le (tgt := 80) hx hb dX10_led_73 (by decide) (fun q73 => ?_) (fun q73 => ?_)
            · have hf := (br_if hf).1 q73
              refine lv_aload_n hx hb dX10_led_80 rfl (lv_at hl 1 rfl) ?_
              refine x_get hx hb hown hts hK hR kX10 (z_0 b) (j := 2) (by decide) fl_X10_28 (v := .ref (eB E + 21)) rfl dX10_led_81 ?_
              refine lv_iload_n hx hb dX10_led_84 rfl (lv_at hl 2 rfl) ?_
              refine lv_iload_n hx hb dX10_led_85 rfl (lv_at hl 4 rfl) ?_
              obtain ⟨q86, c86, hf⟩ := br_b hf
              refine x_callV (k := 21) (As := [.int x1, .int x3]) (rest := []) (st1 := [.int q86]) X hR (ctX0_walk c86) ml_X10_232 im_X0_walk se_X0_walk in_X0 co_X0_walk yo_X0_walk rfl kX0 (z_21 b) (rm_ok (by decide) (by decide)) rfl hl.1 rfl rfl (Nat.le_of_ble_eq_true rfl) dX10_led_86 ⟨Nat.zero_le _, Nat.zero_le _⟩ (fun H locs hR => ?_)
              exact wX10_led_89 X hf hR (lv_sub hl [] rfl)
            · have hf := (br_if hf).2 q73
              refine lv_iconst (v := -1) hx hb dX10_led_76 (by decide) ?_
              refine lv_goto (tgt := 89) hx hb dX10_led_77 (by decide) ?_
              exact wX10_led_89 X hf hR (lv_sub hl [] rfl)
          · have hf := (br_if hf).1 q64
            exact wX10_led_67 X hf hR (lv_sub hl [0] rfl)
      · have hf := (br_if hf).2 q24
        exact wX10_led_27 X hf hR (lv_sub hl [] rfl)
theorem ctX10_led {l : Launch} {E : Ge} {b : Bool} {M : Mem} {x1 : Int32} {x2 : Int32} {x3 : Int32} {r : Int32} {M1 : Mem} (h : fX10_led x1 x2 x3 M = some (r, M1)) : CT l E yX10_led cX10_led 5 (some .int) 6 0 0 [.ref (eB E + 0), .int x1, .int x2, .int x3] (some (.int r)) (sh_ b) (nn b) M (sh_ b) (nn b) M1 := by
  refine met_of (by decide) (Nat.le_of_ble_eq_true rfl) ?_
  intro p e s m args below meth c X _ hR ls hl
  exact wX10_led_0 X h hR hl
def fX10_line_35 (M : Mem) : Option (Int32 × Mem) := some ((-2147483648 : Int32), M)
def fX10_line (x1 : Int32) (x2 : Int32) (M : Mem) : Option (Int32 × Mem) := (fX2_refresh M).bind (fun q4 => (if x1 = (-1 : Int32) then some ((q4.1 26 4), q4) else (if x1 < 0 then fX10_line_35 q4 else (if x1 < (q4.1 26 4) then (if x2 = (0 : Int32) then (if inb x1 105 = true then some ((q4.1 27 (ix x1)), q4) else none) else (if x2 = (1 : Int32) then (if inb x1 105 = true then some ((q4.1 28 (ix x1)), q4) else none) else (if x2 = (2 : Int32) then (if inb x1 105 = true then some ((q4.1 29 (ix x1)), q4) else none) else some ((-2147483648 : Int32), q4)))) else fX10_line_35 q4))))
set_option maxHeartbeats 4000000 in
set_option maxRecDepth 100000 in
theorem wX10_line_35 {r : Int32} {M1 : Mem} (X : CX E p s m args c meth cX10_line 3 (some .int) RX10) : ∀ {M : Mem} {H : Heap} {locs : List Loc} {ls : Array Slot}, fX10_line_35 M = some (r, M1) → Rl E (sh_ b) (nn b) s.heap M H locs → lv_has ls 3 [] → W p l e (rm 6 0 0) s m args below meth c H locs 0 0 (MQ below (qq E (some (.int r)) (sh_ b) (nn b) M1) args s 0 0 (fr E)) (F0 m 35 ls []) := by
  obtain ⟨hx, hb, hr, hml, hown, hts, hK, hN, hO, hlk, hbs⟩ := id X
  intro M H locs ls hf hR hl
  unfold fX10_line_35 at hf
  refine lv_ldc hx hb hown (hts _ ki_X10_169) dX10_line_35 ?_
  cases hf
  exact x_iret hx hb hr hlk hR dX10_line_37
set_option maxHeartbeats 4000000 in
set_option maxRecDepth 100000 in
theorem wX10_line_0 {r : Int32} {M1 : Mem} (X : CX E p s m args c meth cX10_line 3 (some .int) RX10) : ∀ {x1 : Int32} {x2 : Int32} {M : Mem} {H : Heap} {locs : List Loc} {ls : Array Slot}, fX10_line x1 x2 M = some (r, M1) → Rl E (sh_ b) (nn b) s.heap M H locs → lv_has ls 3 [(0, .ref (eB E + 0)), (1, .int x1), (2, .int x2)] → W p l e (rm 6 0 0) s m args below meth c H locs 0 0 (MQ below (qq E (some (.int r)) (sh_ b) (nn b) M1) args s 0 0 (fr E)) (F0 m 0 ls []) := by
  obtain ⟨hx, hb, hr, hml, hown, hts, hK, hN, hO, hlk, hbs⟩ := id X
  intro x1 x2 M H locs ls hf hR hl
  unfold fX10_line at hf
  refine lv_aload_n hx hb dX10_line_0 rfl (lv_at hl 0 rfl) ?_
  refine x_get hx hb hown hts hK hR kX10 (z_0 b) (j := 3) (by decide) fl_X10_35 (v := .ref (eB E + 26)) rfl dX10_line_1 ?_
  obtain ⟨q4, c4, hf⟩ := br_b hf
  refine x_callV (k := 26) (As := []) (rest := []) (st1 := []) X hR (ctX2_refresh c4) ml_X10_167 im_X2_refresh se_X2_refresh in_X2 co_X2_refresh yo_X2_refresh rfl kX2 (z_26 b) (rm_ok (by decide) (by decide)) rfl hl.1 rfl rfl (Nat.le_of_ble_eq_true rfl) dX10_line_4 ⟨Nat.zero_le _, Nat.zero_le _⟩ (fun H locs hR => ?_)
  refine lv_iload_n hx hb dX10_line_7 rfl (lv_at hl 1 rfl) ?_
  refine lv_iconst (v := -1) hx hb dX10_line_8 (by decide) ?_
  refine lv_icmp_ne (tgt := 20) hx hb dX10_line_9 (by decide) (fun q9 => ?_) (fun q9 => ?_)
  · have hf := (br_if hf).2 q9
    refine lv_iload_n hx hb dX10_line_20 rfl (lv_at hl 1 rfl) ?_
    refine lv_if_lt (tgt := 35) hx hb dX10_line_21 (by decide) (fun q21 => ?_) (fun q21 => ?_)
    · have hf := (br_if hf).1 q21
      exact wX10_line_35 X hf hR (lv_sub hl [] rfl)
    · have hf := (br_if hf).2 q21
      refine lv_iload_n hx hb dX10_line_24 rfl (lv_at hl 1 rfl) ?_
      refine lv_aload_n hx hb dX10_line_25 rfl (lv_at hl 0 rfl) ?_
      refine x_get hx hb hown hts hK hR kX10 (z_0 b) (j := 3) (by decide) fl_X10_35 (v := .ref (eB E + 26)) rfl dX10_line_26 ?_
      refine x_get hx hb hown hts hK hR kX2 (z_26 b) (j := 4) (by decide) fl_X10_168 (v := .int (q4.1 26 4)) rfl dX10_line_29 ?_
      refine lv_icmp_lt (tgt := 38) hx hb dX10_line_32 (by decide) (fun q32 => ?_) (fun q32 => ?_)
      · have hf := (br_if hf).1 q32
        refine lv_iload_n hx hb dX10_line_38 rfl (lv_at hl 2 rfl) ?_
        by_cases q39_0 : x2 = (0 : Int32)
        · have hf := (br_if hf).1 q39_0
          refine x_tsw (v := 0) (tgt := 64) hx hb dX10_line_39 q39_0 (by decide) (by decide) (off := 25) (by decide) (by decide) ?_
          refine lv_aload_n hx hb dX10_line_64 rfl (lv_at hl 0 rfl) ?_
          refine x_get hx hb hown hts hK hR kX10 (z_0 b) (j := 3) (by decide) fl_X10_35 (v := .ref (eB E + 26)) rfl dX10_line_65 ?_
          refine x_get hx hb hown hts hK hR kX2 (z_26 b) (j := 1) (by decide) fl_X10_170 (v := .ref (eB E + 27)) rfl dX10_line_68 ?_
          refine lv_iload_n hx hb dX10_line_71 rfl (lv_at hl 1 rfl) ?_
          obtain ⟨g72, hf⟩ := br_g hf
          refine x_iald hx hb hK hR (z_27 b) g72 dX10_line_72 ?_
          cases hf
          exact x_iret hx hb hr hlk hR dX10_line_73
        · have hf := (br_if hf).2 q39_0
          by_cases q39_1 : x2 = (1 : Int32)
          · have hf := (br_if hf).1 q39_1
            refine x_tsw (v := 1) (tgt := 74) hx hb dX10_line_39 q39_1 (by decide) (by decide) (off := 35) (by decide) (by decide) ?_
            refine lv_aload_n hx hb dX10_line_74 rfl (lv_at hl 0 rfl) ?_
            refine x_get hx hb hown hts hK hR kX10 (z_0 b) (j := 3) (by decide) fl_X10_35 (v := .ref (eB E + 26)) rfl dX10_line_75 ?_
            refine x_get hx hb hown hts hK hR kX2 (z_26 b) (j := 2) (by decide) fl_X10_173 (v := .ref (eB E + 28)) rfl dX10_line_78 ?_
            refine lv_iload_n hx hb dX10_line_81 rfl (lv_at hl 1 rfl) ?_
            obtain ⟨g82, hf⟩ := br_g hf
            refine x_iald hx hb hK hR (z_28 b) g82 dX10_line_82 ?_
            cases hf
            exact x_iret hx hb hr hlk hR dX10_line_83
          · have hf := (br_if hf).2 q39_1
            by_cases q39_2 : x2 = (2 : Int32)
            · have hf := (br_if hf).1 q39_2
              refine x_tsw (v := 2) (tgt := 84) hx hb dX10_line_39 q39_2 (by decide) (by decide) (off := 45) (by decide) (by decide) ?_
              refine lv_aload_n hx hb dX10_line_84 rfl (lv_at hl 0 rfl) ?_
              refine x_get hx hb hown hts hK hR kX10 (z_0 b) (j := 3) (by decide) fl_X10_35 (v := .ref (eB E + 26)) rfl dX10_line_85 ?_
              refine x_get hx hb hown hts hK hR kX2 (z_26 b) (j := 3) (by decide) fl_X10_176 (v := .ref (eB E + 29)) rfl dX10_line_88 ?_
              refine lv_iload_n hx hb dX10_line_91 rfl (lv_at hl 1 rfl) ?_
              obtain ⟨g92, hf⟩ := br_g hf
              refine x_iald hx hb hK hR (z_29 b) g92 dX10_line_92 ?_
              cases hf
              exact x_iret hx hb hr hlk hR dX10_line_93
            · have hf := (br_if hf).2 q39_2
              refine lv_tableOut (tgt := 94) hx hb dX10_line_39 (by have a0 := lv_neT q39_0 (show (0 : Int32).toInt = 0 from rfl); have a1 := lv_neT q39_1 (show (1 : Int32).toInt = 1 from rfl); have a2 := lv_neT q39_2 (show (2 : Int32).toInt = 2 from rfl); omega) (by decide) ?_
              refine lv_ldc hx hb hown (hts _ ki_X10_169) dX10_line_94 ?_
              cases hf
              exact x_iret hx hb hr hlk hR dX10_line_96
      · have hf := (br_if hf).2 q32
        exact wX10_line_35 X hf hR (lv_sub hl [] rfl)
  · have hf := (br_if hf).1 q9
    refine lv_aload_n hx hb dX10_line_12 rfl (lv_at hl 0 rfl) ?_
    refine x_get hx hb hown hts hK hR kX10 (z_0 b) (j := 3) (by decide) fl_X10_35 (v := .ref (eB E + 26)) rfl dX10_line_13 ?_
    refine x_get hx hb hown hts hK hR kX2 (z_26 b) (j := 4) (by decide) fl_X10_168 (v := .int (q4.1 26 4)) rfl dX10_line_16 ?_
    cases hf
    exact x_iret hx hb hr hlk hR dX10_line_19
theorem ctX10_line {l : Launch} {E : Ge} {b : Bool} {M : Mem} {x1 : Int32} {x2 : Int32} {r : Int32} {M1 : Mem} (h : fX10_line x1 x2 M = some (r, M1)) : CT l E yX10_line cX10_line 3 (some .int) 6 0 0 [.ref (eB E + 0), .int x1, .int x2] (some (.int r)) (sh_ b) (nn b) M (sh_ b) (nn b) M1 := by
  refine met_of (by decide) (Nat.le_of_ble_eq_true rfl) ?_
  intro p e s m args below meth c X _ hR ls hl
  exact wX10_line_0 X h hR hl
def fX10_lot_40 (M : Mem) : Option (Int32 × Mem) := some ((-1 : Int32), M)
def fX10_lot_68 (s0 : Int32) (M : Mem) : Option (Int32 × Mem) := some (s0, M)
def fX10_lot (x1 : Int32) (M : Mem) : Option (Int32 × Mem) := (fX0_refresh M).bind (fun q4 => (fX3_refresh q4).bind (fun q11 => (if (q11.1 36 6) = 0 then fX10_lot_40 q11 else (if x1 < (-1 : Int32) then fX10_lot_40 q11 else (if x1 < (q11.1 36 5) then (if x1 = (-1 : Int32) then fX10_lot_68 ((q11.2 36 4).toInt32) q11 else (if inb x1 8 = true then fX10_lot_68 ((q11.2 39 (ix x1)).toInt32) q11 else none)) else fX10_lot_40 q11)))))
set_option maxHeartbeats 4000000 in
set_option maxRecDepth 100000 in
theorem wX10_lot_40 {r : Int32} {M1 : Mem} (X : CX E p s m args c meth cX10_lot 2 (some .int) RX10) : ∀ {M : Mem} {H : Heap} {locs : List Loc} {ls : Array Slot}, fX10_lot_40 M = some (r, M1) → Rl E (sh_ b) (nn b) s.heap M H locs → lv_has ls 2 [] → W p l e (rm 6 0 0) s m args below meth c H locs 0 0 (MQ below (qq E (some (.int r)) (sh_ b) (nn b) M1) args s 0 0 (fr E)) (F0 m 40 ls []) := by
  obtain ⟨hx, hb, hr, hml, hown, hts, hK, hN, hO, hlk, hbs⟩ := id X
  intro M H locs ls hf hR hl
  unfold fX10_lot_40 at hf
  refine lv_iconst (v := -1) hx hb dX10_lot_40 (by decide) ?_
  cases hf
  exact x_iret hx hb hr hlk hR dX10_lot_41
set_option maxHeartbeats 4000000 in
set_option maxRecDepth 100000 in
theorem wX10_lot_68 {r : Int32} {M1 : Mem} (X : CX E p s m args c meth cX10_lot 2 (some .int) RX10) : ∀ {s0 : Int32} {M : Mem} {H : Heap} {locs : List Loc} {ls : Array Slot}, fX10_lot_68 s0 M = some (r, M1) → Rl E (sh_ b) (nn b) s.heap M H locs → lv_has ls 2 [] → W p l e (rm 6 0 0) s m args below meth c H locs 0 0 (MQ below (qq E (some (.int r)) (sh_ b) (nn b) M1) args s 0 0 (fr E)) (F0 m 68 ls [.int s0]) := by
  obtain ⟨hx, hb, hr, hml, hown, hts, hK, hN, hO, hlk, hbs⟩ := id X
  intro s0 M H locs ls hf hR hl
  unfold fX10_lot_68 at hf
  cases hf
  exact x_iret hx hb hr hlk hR dX10_lot_68
set_option maxHeartbeats 4000000 in
set_option maxRecDepth 100000 in
theorem wX10_lot_0 {r : Int32} {M1 : Mem} (X : CX E p s m args c meth cX10_lot 2 (some .int) RX10) : ∀ {x1 : Int32} {M : Mem} {H : Heap} {locs : List Loc} {ls : Array Slot}, fX10_lot x1 M = some (r, M1) → Rl E (sh_ b) (nn b) s.heap M H locs → lv_has ls 2 [(0, .ref (eB E + 0)), (1, .int x1)] → W p l e (rm 6 0 0) s m args below meth c H locs 0 0 (MQ below (qq E (some (.int r)) (sh_ b) (nn b) M1) args s 0 0 (fr E)) (F0 m 0 ls []) := by
  obtain ⟨hx, hb, hr, hml, hown, hts, hK, hN, hO, hlk, hbs⟩ := id X
  intro x1 M H locs ls hf hR hl
  unfold fX10_lot at hf
  refine lv_aload_n hx hb dX10_lot_0 rfl (lv_at hl 0 rfl) ?_
  refine x_get hx hb hown hts hK hR kX10 (z_0 b) (j := 2) (by decide) fl_X10_28 (v := .ref (eB E + 21)) rfl dX10_lot_1 ?_
  obtain ⟨q4, c4, hf⟩ := br_b hf
  refine x_callV (k := 21) (As := []) (rest := []) (st1 := []) X hR (ctX0_refresh c4) ml_X10_151 im_X0_refresh se_X0_refresh in_X0 co_X0_refresh yo_X0_refresh rfl kX0 (z_21 b) (rm_ok (by decide) (by decide)) rfl hl.1 rfl rfl (Nat.le_of_ble_eq_true rfl) dX10_lot_4 ⟨Nat.zero_le _, Nat.zero_le _⟩ (fun H locs hR => ?_)
  refine lv_aload_n hx hb dX10_lot_7 rfl (lv_at hl 0 rfl) ?_
  refine x_get hx hb hown hts hK hR kX10 (z_0 b) (j := 7) (by decide) fl_X10_62 (v := .ref (eB E + 36)) rfl dX10_lot_8 ?_
  obtain ⟨q11, c11, hf⟩ := br_b hf
  refine x_callV (k := 36) (As := []) (rest := []) (st1 := []) X hR (ctX3_refresh c11) ml_X10_244 im_X3_refresh se_X3_refresh in_X3 co_X3_refresh yo_X3_refresh rfl kX3 (z_36 b) (rm_ok (by decide) (by decide)) rfl hl.1 rfl rfl (Nat.le_of_ble_eq_true rfl) dX10_lot_11 ⟨Nat.zero_le _, Nat.zero_le _⟩ (fun H locs hR => ?_)
  refine lv_aload_n hx hb dX10_lot_14 rfl (lv_at hl 0 rfl) ?_
  refine x_get hx hb hown hts hK hR kX10 (z_0 b) (j := 7) (by decide) fl_X10_62 (v := .ref (eB E + 36)) rfl dX10_lot_15 ?_
  refine x_get hx hb hown hts hK hR kX3 (z_36 b) (j := 6) (by decide) fl_X10_248 (v := .int (q11.1 36 6)) rfl dX10_lot_18 ?_
  refine lv_if_eq (tgt := 40) hx hb dX10_lot_21 (by decide) (fun q21 => ?_) (fun q21 => ?_)
  · have hf := (br_if hf).1 q21
    exact wX10_lot_40 X hf hR (lv_sub hl [] rfl)
  · have hf := (br_if hf).2 q21
    refine lv_iload_n hx hb dX10_lot_24 rfl (lv_at hl 1 rfl) ?_
    refine lv_iconst (v := -1) hx hb dX10_lot_25 (by decide) ?_
    refine lv_icmp_lt (tgt := 40) hx hb dX10_lot_26 (by decide) (fun q26 => ?_) (fun q26 => ?_)
    · have hf := (br_if hf).1 q26
      exact wX10_lot_40 X hf hR (lv_sub hl [] rfl)
    · have hf := (br_if hf).2 q26
      refine lv_iload_n hx hb dX10_lot_29 rfl (lv_at hl 1 rfl) ?_
      refine lv_aload_n hx hb dX10_lot_30 rfl (lv_at hl 0 rfl) ?_
      refine x_get hx hb hown hts hK hR kX10 (z_0 b) (j := 7) (by decide) fl_X10_62 (v := .ref (eB E + 36)) rfl dX10_lot_31 ?_
      refine x_get hx hb hown hts hK hR kX3 (z_36 b) (j := 5) (by decide) fl_X10_252 (v := .int (q11.1 36 5)) rfl dX10_lot_34 ?_
      refine lv_icmp_lt (tgt := 42) hx hb dX10_lot_37 (by decide) (fun q37 => ?_) (fun q37 => ?_)
      · have hf := (br_if hf).1 q37
        refine lv_iload_n hx hb dX10_lot_42 rfl (lv_at hl 1 rfl) ?_
        refine lv_iconst (v := -1) hx hb dX10_lot_43 (by decide) ?_
        refine lv_icmp_ne (tgt := 58) hx hb dX10_lot_44 (by decide) (fun q44 => ?_) (fun q44 => ?_)
        · have hf := (br_if hf).2 q44
          refine lv_aload_n hx hb dX10_lot_58 rfl (lv_at hl 0 rfl) ?_
          refine x_get hx hb hown hts hK hR kX10 (z_0 b) (j := 7) (by decide) fl_X10_62 (v := .ref (eB E + 36)) rfl dX10_lot_59 ?_
          refine x_get hx hb hown hts hK hR kX3 (z_36 b) (j := 3) (by decide) fl_X10_256 (v := .ref (eB E + 39)) rfl dX10_lot_62 ?_
          refine lv_iload_n hx hb dX10_lot_65 rfl (lv_at hl 1 rfl) ?_
          obtain ⟨g66, hf⟩ := br_g hf
          refine x_lald hx hb hK hR (z_39 b) g66 dX10_lot_66 ?_
          refine lv_l2i (v := (q11.2 39 (ix x1)).toInt32) hx hb dX10_lot_67 rfl ?_
          exact wX10_lot_68 X hf hR (lv_sub hl [] rfl)
        · have hf := (br_if hf).1 q44
          refine lv_aload_n hx hb dX10_lot_47 rfl (lv_at hl 0 rfl) ?_
          refine x_get hx hb hown hts hK hR kX10 (z_0 b) (j := 7) (by decide) fl_X10_62 (v := .ref (eB E + 36)) rfl dX10_lot_48 ?_
          refine x_get hx hb hown hts hK hR kX3 (z_36 b) (j := 4) (by decide) fl_X10_253 (v := .long (q11.2 36 4)) rfl dX10_lot_51 ?_
          refine lv_l2i (v := (q11.2 36 4).toInt32) hx hb dX10_lot_54 rfl ?_
          refine lv_goto (tgt := 68) hx hb dX10_lot_55 (by decide) ?_
          exact wX10_lot_68 X hf hR (lv_sub hl [] rfl)
      · have hf := (br_if hf).2 q37
        exact wX10_lot_40 X hf hR (lv_sub hl [] rfl)
theorem ctX10_lot {l : Launch} {E : Ge} {b : Bool} {M : Mem} {x1 : Int32} {r : Int32} {M1 : Mem} (h : fX10_lot x1 M = some (r, M1)) : CT l E yX10_lot cX10_lot 2 (some .int) 6 0 0 [.ref (eB E + 0), .int x1] (some (.int r)) (sh_ b) (nn b) M (sh_ b) (nn b) M1 := by
  refine met_of (by decide) (Nat.le_of_ble_eq_true rfl) ?_
  intro p e s m args below meth c X _ hR ls hl
  exact wX10_lot_0 X h hR hl
def fX10_make_9 (M : Mem) : Option (Int32 × Mem) := some ((-1 : Int32), M)
def fX10_make (x1 : Int32) (M : Mem) : Option (Int32 × Mem) := (if x1 < 0 then fX10_make_9 M else (if x1 ≤ (2 : Int32) then (fX0_refresh M).bind (fun q15 => (fX9_findMove q15).bind (fun q22 => (if x1 = (0 : Int32) then some ((q22.1 40 6), q22) else (if x1 = (1 : Int32) then some ((q22.1 40 7), q22) else some ((q22.1 40 8), q22))))) else fX10_make_9 M))
set_option maxHeartbeats 4000000 in
set_option maxRecDepth 100000 in
theorem wX10_make_9 {r : Int32} {M1 : Mem} (X : CX E p s m args c meth cX10_make 2 (some .int) RX10) : ∀ {M : Mem} {H : Heap} {locs : List Loc} {ls : Array Slot}, fX10_make_9 M = some (r, M1) → Rl E (sh_ b) (nn b) s.heap M H locs → lv_has ls 2 [] → W p l e (rm 7 0 0) s m args below meth c H locs 0 0 (MQ below (qq E (some (.int r)) (sh_ b) (nn b) M1) args s 0 0 (fr E)) (F0 m 9 ls []) := by
  obtain ⟨hx, hb, hr, hml, hown, hts, hK, hN, hO, hlk, hbs⟩ := id X
  intro M H locs ls hf hR hl
  unfold fX10_make_9 at hf
  refine lv_iconst (v := -1) hx hb dX10_make_9 (by decide) ?_
  cases hf
  exact x_iret hx hb hr hlk hR dX10_make_10
set_option maxHeartbeats 4000000 in
set_option maxRecDepth 100000 in
theorem wX10_make_0 {r : Int32} {M1 : Mem} (X : CX E p s m args c meth cX10_make 2 (some .int) RX10) : ∀ {x1 : Int32} {M : Mem} {H : Heap} {locs : List Loc} {ls : Array Slot}, fX10_make x1 M = some (r, M1) → Rl E (sh_ b) (nn b) s.heap M H locs → lv_has ls 2 [(0, .ref (eB E + 0)), (1, .int x1)] → W p l e (rm 7 0 0) s m args below meth c H locs 0 0 (MQ below (qq E (some (.int r)) (sh_ b) (nn b) M1) args s 0 0 (fr E)) (F0 m 0 ls []) := by
  obtain ⟨hx, hb, hr, hml, hown, hts, hK, hN, hO, hlk, hbs⟩ := id X
  intro x1 M H locs ls hf hR hl
  unfold fX10_make at hf
  refine lv_iload_n hx hb dX10_make_0 rfl (lv_at hl 1 rfl) ?_
  refine lv_if_lt (tgt := 9) hx hb dX10_make_1 (by decide) (fun q1 => ?_) (fun q1 => ?_)
  · have hf := (br_if hf).1 q1
    exact wX10_make_9 X hf hR (lv_sub hl [] rfl)
  · have hf := (br_if hf).2 q1
    refine lv_iload_n hx hb dX10_make_4 rfl (lv_at hl 1 rfl) ?_
    refine lv_iconst (v := 2) hx hb dX10_make_5 (by decide) ?_
    refine lv_icmp_le (tgt := 11) hx hb dX10_make_6 (by decide) (fun q6 => ?_) (fun q6 => ?_)
    · have hf := (br_if hf).1 q6
      refine lv_aload_n hx hb dX10_make_11 rfl (lv_at hl 0 rfl) ?_
      refine x_get hx hb hown hts hK hR kX10 (z_0 b) (j := 2) (by decide) fl_X10_28 (v := .ref (eB E + 21)) rfl dX10_make_12 ?_
      obtain ⟨q15, c15, hf⟩ := br_b hf
      refine x_callV (k := 21) (As := []) (rest := []) (st1 := []) X hR (ctX0_refresh c15) ml_X10_151 im_X0_refresh se_X0_refresh in_X0 co_X0_refresh yo_X0_refresh rfl kX0 (z_21 b) (rm_ok (by decide) (by decide)) rfl hl.1 rfl rfl (Nat.le_of_ble_eq_true rfl) dX10_make_15 ⟨Nat.zero_le _, Nat.zero_le _⟩ (fun H locs hR => ?_)
      refine lv_aload_n hx hb dX10_make_18 rfl (lv_at hl 0 rfl) ?_
      refine x_get hx hb hown hts hK hR kX10 (z_0 b) (j := 8) (by decide) fl_X10_69 (v := .ref (eB E + 40)) rfl dX10_make_19 ?_
      obtain ⟨q22, c22, hf⟩ := br_b hf
      refine x_callV (k := 40) (As := []) (rest := []) (st1 := []) X hR (ctX9_findMove c22) ml_X10_271 im_X9_findMove se_X9_findMove in_X9 co_X9_findMove yo_X9_findMove rfl kX9 (z_40 b) (rm_ok (by decide) (by decide)) rfl hl.1 rfl rfl (Nat.le_of_ble_eq_true rfl) dX10_make_22 ⟨Nat.zero_le _, Nat.zero_le _⟩ (fun H locs hR => ?_)
      refine lv_iload_n hx hb dX10_make_25 rfl (lv_at hl 1 rfl) ?_
      by_cases q26_0 : x1 = (0 : Int32)
      · have hf := (br_if hf).1 q26_0
        refine lv_lookup (tgt := 52) (off := 26) hx hb dX10_make_26 (by decide) (by rw [q26_0]; decide) (by decide) ?_
        refine lv_aload_n hx hb dX10_make_52 rfl (lv_at hl 0 rfl) ?_
        refine x_get hx hb hown hts hK hR kX10 (z_0 b) (j := 8) (by decide) fl_X10_69 (v := .ref (eB E + 40)) rfl dX10_make_53 ?_
        refine x_get hx hb hown hts hK hR kX9 (z_40 b) (j := 6) (by decide) fl_X10_274 (v := .int (q22.1 40 6)) rfl dX10_make_56 ?_
        cases hf
        exact x_iret hx hb hr hlk hR dX10_make_59
      · have hf := (br_if hf).2 q26_0
        by_cases q26_1 : x1 = (1 : Int32)
        · have hf := (br_if hf).1 q26_1
          refine lv_lookup (tgt := 60) (off := 34) hx hb dX10_make_26 (by decide) (by rw [q26_1]; decide) (by decide) ?_
          refine lv_aload_n hx hb dX10_make_60 rfl (lv_at hl 0 rfl) ?_
          refine x_get hx hb hown hts hK hR kX10 (z_0 b) (j := 8) (by decide) fl_X10_69 (v := .ref (eB E + 40)) rfl dX10_make_61 ?_
          refine x_get hx hb hown hts hK hR kX9 (z_40 b) (j := 7) (by decide) fl_X10_277 (v := .int (q22.1 40 7)) rfl dX10_make_64 ?_
          cases hf
          exact x_iret hx hb hr hlk hR dX10_make_67
        · have hf := (br_if hf).2 q26_1
          refine lv_lookup (tgt := 68) (off := 42) hx hb dX10_make_26 (by decide) (by show Op.lookupswitch.offset [(0, 26), (1, 34)] 42 (Int32.toInt x1) = _; rw [lv_osw (a := 0) q26_0 (by decide), lv_osw (a := 1) q26_1 (by decide)]; rfl) (by decide) ?_
          refine lv_aload_n hx hb dX10_make_68 rfl (lv_at hl 0 rfl) ?_
          refine x_get hx hb hown hts hK hR kX10 (z_0 b) (j := 8) (by decide) fl_X10_69 (v := .ref (eB E + 40)) rfl dX10_make_69 ?_
          refine x_get hx hb hown hts hK hR kX9 (z_40 b) (j := 8) (by decide) fl_X10_280 (v := .int (q22.1 40 8)) rfl dX10_make_72 ?_
          cases hf
          exact x_iret hx hb hr hlk hR dX10_make_75
    · have hf := (br_if hf).2 q6
      exact wX10_make_9 X hf hR (lv_sub hl [] rfl)
theorem ctX10_make {l : Launch} {E : Ge} {b : Bool} {M : Mem} {x1 : Int32} {r : Int32} {M1 : Mem} (h : fX10_make x1 M = some (r, M1)) : CT l E yX10_make cX10_make 2 (some .int) 7 0 0 [.ref (eB E + 0), .int x1] (some (.int r)) (sh_ b) (nn b) M (sh_ b) (nn b) M1 := by
  refine met_of (by decide) (Nat.le_of_ble_eq_true rfl) ?_
  intro p e s m args below meth c X _ hR ls hl
  exact wX10_make_0 X h hR hl
def fX10_middle_35 (M : Mem) : Option (Int32 × Mem) := some ((-2147483648 : Int32), M)
def fX10_middle (x1 : Int32) (x2 : Int32) (M : Mem) : Option (Int32 × Mem) := (fX4_refresh M).bind (fun q4 => (if x1 = (-1 : Int32) then some ((q4.1 30 5), q4) else (if x1 < 0 then fX10_middle_35 q4 else (if x1 < (q4.1 30 5) then (if x2 = (0 : Int32) then (if inb x1 15 = true then some ((q4.2 31 (ix x1)).toInt32, q4) else none) else (if x2 = (1 : Int32) then (if inb x1 15 = true then some ((q4.2 32 (ix x1)).toInt32, q4) else none) else (if x2 = (2 : Int32) then (if inb x1 15 = true then some ((q4.2 33 (ix x1)).toInt32, q4) else none) else some ((-2147483648 : Int32), q4)))) else fX10_middle_35 q4))))
set_option maxHeartbeats 4000000 in
set_option maxRecDepth 100000 in
theorem wX10_middle_35 {r : Int32} {M1 : Mem} (X : CX E p s m args c meth cX10_middle 3 (some .int) RX10) : ∀ {M : Mem} {H : Heap} {locs : List Loc} {ls : Array Slot}, fX10_middle_35 M = some (r, M1) → Rl E (sh_ b) (nn b) s.heap M H locs → lv_has ls 3 [] → W p l e (rm 7 0 0) s m args below meth c H locs 0 0 (MQ below (qq E (some (.int r)) (sh_ b) (nn b) M1) args s 0 0 (fr E)) (F0 m 35 ls []) := by
  obtain ⟨hx, hb, hr, hml, hown, hts, hK, hN, hO, hlk, hbs⟩ := id X
  intro M H locs ls hf hR hl
  unfold fX10_middle_35 at hf
  refine lv_ldc hx hb hown (hts _ ki_X10_169) dX10_middle_35 ?_
  cases hf
  exact x_iret hx hb hr hlk hR dX10_middle_37
set_option maxHeartbeats 4000000 in
set_option maxRecDepth 100000 in
theorem wX10_middle_0 {r : Int32} {M1 : Mem} (X : CX E p s m args c meth cX10_middle 3 (some .int) RX10) : ∀ {x1 : Int32} {x2 : Int32} {M : Mem} {H : Heap} {locs : List Loc} {ls : Array Slot}, fX10_middle x1 x2 M = some (r, M1) → Rl E (sh_ b) (nn b) s.heap M H locs → lv_has ls 3 [(0, .ref (eB E + 0)), (1, .int x1), (2, .int x2)] → W p l e (rm 7 0 0) s m args below meth c H locs 0 0 (MQ below (qq E (some (.int r)) (sh_ b) (nn b) M1) args s 0 0 (fr E)) (F0 m 0 ls []) := by
  obtain ⟨hx, hb, hr, hml, hown, hts, hK, hN, hO, hlk, hbs⟩ := id X
  intro x1 x2 M H locs ls hf hR hl
  unfold fX10_middle at hf
  refine lv_aload_n hx hb dX10_middle_0 rfl (lv_at hl 0 rfl) ?_
  refine x_get hx hb hown hts hK hR kX10 (z_0 b) (j := 4) (by decide) fl_X10_44 (v := .ref (eB E + 30)) rfl dX10_middle_1 ?_
  obtain ⟨q4, c4, hf⟩ := br_b hf
  refine x_callV (k := 30) (As := []) (rest := []) (st1 := []) X hR (ctX4_refresh c4) ml_X10_179 im_X4_refresh se_X4_refresh in_X4 co_X4_refresh yo_X4_refresh rfl kX4 (z_30 b) (rm_ok (by decide) (by decide)) rfl hl.1 rfl rfl (Nat.le_of_ble_eq_true rfl) dX10_middle_4 ⟨Nat.zero_le _, Nat.zero_le _⟩ (fun H locs hR => ?_)
  refine lv_iload_n hx hb dX10_middle_7 rfl (lv_at hl 1 rfl) ?_
  refine lv_iconst (v := -1) hx hb dX10_middle_8 (by decide) ?_
  refine lv_icmp_ne (tgt := 20) hx hb dX10_middle_9 (by decide) (fun q9 => ?_) (fun q9 => ?_)
  · have hf := (br_if hf).2 q9
    refine lv_iload_n hx hb dX10_middle_20 rfl (lv_at hl 1 rfl) ?_
    refine lv_if_lt (tgt := 35) hx hb dX10_middle_21 (by decide) (fun q21 => ?_) (fun q21 => ?_)
    · have hf := (br_if hf).1 q21
      exact wX10_middle_35 X hf hR (lv_sub hl [] rfl)
    · have hf := (br_if hf).2 q21
      refine lv_iload_n hx hb dX10_middle_24 rfl (lv_at hl 1 rfl) ?_
      refine lv_aload_n hx hb dX10_middle_25 rfl (lv_at hl 0 rfl) ?_
      refine x_get hx hb hown hts hK hR kX10 (z_0 b) (j := 4) (by decide) fl_X10_44 (v := .ref (eB E + 30)) rfl dX10_middle_26 ?_
      refine x_get hx hb hown hts hK hR kX4 (z_30 b) (j := 5) (by decide) fl_X10_180 (v := .int (q4.1 30 5)) rfl dX10_middle_29 ?_
      refine lv_icmp_lt (tgt := 38) hx hb dX10_middle_32 (by decide) (fun q32 => ?_) (fun q32 => ?_)
      · have hf := (br_if hf).1 q32
        refine lv_iload_n hx hb dX10_middle_38 rfl (lv_at hl 2 rfl) ?_
        by_cases q39_0 : x2 = (0 : Int32)
        · have hf := (br_if hf).1 q39_0
          refine x_tsw (v := 0) (tgt := 64) hx hb dX10_middle_39 q39_0 (by decide) (by decide) (off := 25) (by decide) (by decide) ?_
          refine lv_aload_n hx hb dX10_middle_64 rfl (lv_at hl 0 rfl) ?_
          refine x_get hx hb hown hts hK hR kX10 (z_0 b) (j := 4) (by decide) fl_X10_44 (v := .ref (eB E + 30)) rfl dX10_middle_65 ?_
          refine x_get hx hb hown hts hK hR kX4 (z_30 b) (j := 2) (by decide) fl_X10_181 (v := .ref (eB E + 31)) rfl dX10_middle_68 ?_
          refine lv_iload_n hx hb dX10_middle_71 rfl (lv_at hl 1 rfl) ?_
          obtain ⟨g72, hf⟩ := br_g hf
          refine x_lald hx hb hK hR (z_31 b) g72 dX10_middle_72 ?_
          refine lv_l2i (v := (q4.2 31 (ix x1)).toInt32) hx hb dX10_middle_73 rfl ?_
          cases hf
          exact x_iret hx hb hr hlk hR dX10_middle_74
        · have hf := (br_if hf).2 q39_0
          by_cases q39_1 : x2 = (1 : Int32)
          · have hf := (br_if hf).1 q39_1
            refine x_tsw (v := 1) (tgt := 75) hx hb dX10_middle_39 q39_1 (by decide) (by decide) (off := 36) (by decide) (by decide) ?_
            refine lv_aload_n hx hb dX10_middle_75 rfl (lv_at hl 0 rfl) ?_
            refine x_get hx hb hown hts hK hR kX10 (z_0 b) (j := 4) (by decide) fl_X10_44 (v := .ref (eB E + 30)) rfl dX10_middle_76 ?_
            refine x_get hx hb hown hts hK hR kX4 (z_30 b) (j := 3) (by decide) fl_X10_184 (v := .ref (eB E + 32)) rfl dX10_middle_79 ?_
            refine lv_iload_n hx hb dX10_middle_82 rfl (lv_at hl 1 rfl) ?_
            obtain ⟨g83, hf⟩ := br_g hf
            refine x_lald hx hb hK hR (z_32 b) g83 dX10_middle_83 ?_
            refine lv_l2i (v := (q4.2 32 (ix x1)).toInt32) hx hb dX10_middle_84 rfl ?_
            cases hf
            exact x_iret hx hb hr hlk hR dX10_middle_85
          · have hf := (br_if hf).2 q39_1
            by_cases q39_2 : x2 = (2 : Int32)
            · have hf := (br_if hf).1 q39_2
              refine x_tsw (v := 2) (tgt := 86) hx hb dX10_middle_39 q39_2 (by decide) (by decide) (off := 47) (by decide) (by decide) ?_
              refine lv_aload_n hx hb dX10_middle_86 rfl (lv_at hl 0 rfl) ?_
              refine x_get hx hb hown hts hK hR kX10 (z_0 b) (j := 4) (by decide) fl_X10_44 (v := .ref (eB E + 30)) rfl dX10_middle_87 ?_
              refine x_get hx hb hown hts hK hR kX4 (z_30 b) (j := 4) (by decide) fl_X10_186 (v := .ref (eB E + 33)) rfl dX10_middle_90 ?_
              refine lv_iload_n hx hb dX10_middle_93 rfl (lv_at hl 1 rfl) ?_
              obtain ⟨g94, hf⟩ := br_g hf
              refine x_lald hx hb hK hR (z_33 b) g94 dX10_middle_94 ?_
              refine lv_l2i (v := (q4.2 33 (ix x1)).toInt32) hx hb dX10_middle_95 rfl ?_
              cases hf
              exact x_iret hx hb hr hlk hR dX10_middle_96
            · have hf := (br_if hf).2 q39_2
              refine lv_tableOut (tgt := 97) hx hb dX10_middle_39 (by have a0 := lv_neT q39_0 (show (0 : Int32).toInt = 0 from rfl); have a1 := lv_neT q39_1 (show (1 : Int32).toInt = 1 from rfl); have a2 := lv_neT q39_2 (show (2 : Int32).toInt = 2 from rfl); omega) (by decide) ?_
              refine lv_ldc hx hb hown (hts _ ki_X10_169) dX10_middle_97 ?_
              cases hf
              exact x_iret hx hb hr hlk hR dX10_middle_99
      · have hf := (br_if hf).2 q32
        exact wX10_middle_35 X hf hR (lv_sub hl [] rfl)
  · have hf := (br_if hf).1 q9
    refine lv_aload_n hx hb dX10_middle_12 rfl (lv_at hl 0 rfl) ?_
    refine x_get hx hb hown hts hK hR kX10 (z_0 b) (j := 4) (by decide) fl_X10_44 (v := .ref (eB E + 30)) rfl dX10_middle_13 ?_
    refine x_get hx hb hown hts hK hR kX4 (z_30 b) (j := 5) (by decide) fl_X10_180 (v := .int (q4.1 30 5)) rfl dX10_middle_16 ?_
    cases hf
    exact x_iret hx hb hr hlk hR dX10_middle_19
theorem ctX10_middle {l : Launch} {E : Ge} {b : Bool} {M : Mem} {x1 : Int32} {x2 : Int32} {r : Int32} {M1 : Mem} (h : fX10_middle x1 x2 M = some (r, M1)) : CT l E yX10_middle cX10_middle 3 (some .int) 7 0 0 [.ref (eB E + 0), .int x1, .int x2] (some (.int r)) (sh_ b) (nn b) M (sh_ b) (nn b) M1 := by
  refine met_of (by decide) (Nat.le_of_ble_eq_true rfl) ?_
  intro p e s m args below meth c X _ hR ls hl
  exact wX10_middle_0 X h hR hl
def fX10_move_44 (M : Mem) : Option (Int32 × Mem) := some ((-1 : Int32), M)
def fX10_move (x1 : Int32) (x2 : Int32) (x3 : Int32) (M : Mem) : Option (Int32 × Mem) := (fX8_hasVoter_t M x1).bind (fun q5 => (if q5 = 0 then fX10_move_44 M else (fX10_isPoint M x2 x3).bind (fun q13 => (if q13 = 0 then fX10_move_44 M else (fX8_isAt_t M x1 x2 x3).bind (fun q26 => (if q26 = 0 then (if (M.1 45 1) < (40 : Int32) then (fX0_refresh M).bind (fun q50 => (if inb x1 15 = true then (if inb x1 15 = true then (fX5_open x1 (q50.1 2 (ix x1)) (q50.1 3 (ix x1)) (q50.1 21 5) (q50.1 21 6) q50).bind (fun q90 => (fX8_put_t x1 x2 x3 q90).bind (fun q100 => (fX0_refresh q100).bind (fun q107 => (fX5_close x2 x3 (q107.1 21 5) (q107.1 21 6) q107).bind (fun q130 => some ((q130.1 45 1), q130))))) else none) else none)) else fX10_move_44 M) else fX10_move_44 M))))))
set_option maxHeartbeats 4000000 in
set_option maxRecDepth 100000 in
theorem wX10_move_44 {r : Int32} {M1 : Mem} (X : CX E p s m args c meth cX10_move 4 (some .int) RX10) : ∀ {M : Mem} {H : Heap} {locs : List Loc} {ls : Array Slot}, fX10_move_44 M = some (r, M1) → Rl E (sh_ b) (nn b) s.heap M H locs → lv_has ls 4 [] → W p l e (rm 6 0 0) s m args below meth c H locs 0 0 (MQ below (qq E (some (.int r)) (sh_ b) (nn b) M1) args s 0 0 (fr E)) (F0 m 44 ls []) := by
  obtain ⟨hx, hb, hr, hml, hown, hts, hK, hN, hO, hlk, hbs⟩ := id X
  intro M H locs ls hf hR hl
  unfold fX10_move_44 at hf
  refine lv_iconst (v := -1) hx hb dX10_move_44 (by decide) ?_
  cases hf
  exact x_iret hx hb hr hlk hR dX10_move_45
set_option maxHeartbeats 4000000 in
set_option maxRecDepth 100000 in
theorem wX10_move_0 {r : Int32} {M1 : Mem} (X : CX E p s m args c meth cX10_move 4 (some .int) RX10) : ∀ {x1 : Int32} {x2 : Int32} {x3 : Int32} {M : Mem} {H : Heap} {locs : List Loc} {ls : Array Slot}, fX10_move x1 x2 x3 M = some (r, M1) → Rl E (sh_ b) (nn b) s.heap M H locs → lv_has ls 4 [(0, .ref (eB E + 0)), (1, .int x1), (2, .int x2), (3, .int x3)] → W p l e (rm 6 0 0) s m args below meth c H locs 0 0 (MQ below (qq E (some (.int r)) (sh_ b) (nn b) M1) args s 0 0 (fr E)) (F0 m 0 ls []) := by
  obtain ⟨hx, hb, hr, hml, hown, hts, hK, hN, hO, hlk, hbs⟩ := id X
  intro x1 x2 x3 M H locs ls hf hR hl
  unfold fX10_move at hf
  refine lv_aload_n hx hb dX10_move_0 rfl (lv_at hl 0 rfl) ?_
  refine x_get hx hb hown hts hK hR kX10 (z_0 b) (j := 0) (by decide) fl_X10_12 (v := .ref (eB E + 1)) rfl dX10_move_1 ?_
  refine lv_iload_n hx hb dX10_move_4 rfl (lv_at hl 1 rfl) ?_
  obtain ⟨q5, c5, hf⟩ := br_b hf
  refine x_callV (k := 1) (As := [.int x1]) (rest := []) (st1 := [.int q5]) X hR (ctX8_hasVoter_t c5) ml_X10_104 im_X8_hasVoter se_X8_hasVoter in_X8 co_X8_hasVoter yo_X8_hasVoter rfl kX8 (z_1 b) (rm_ok (by decide) (by decide)) rfl hl.1 rfl rfl (Nat.le_of_ble_eq_true rfl) dX10_move_5 ⟨Nat.zero_le _, Nat.zero_le _⟩ (fun H locs hR => ?_)
  refine lv_if_eq (tgt := 44) hx hb dX10_move_8 (by decide) (fun q8 => ?_) (fun q8 => ?_)
  · have hf := (br_if hf).1 q8
    exact wX10_move_44 X hf hR (lv_sub hl [] rfl)
  · have hf := (br_if hf).2 q8
    refine lv_iload_n hx hb dX10_move_11 rfl (lv_at hl 2 rfl) ?_
    refine lv_iload_n hx hb dX10_move_12 rfl (lv_at hl 3 rfl) ?_
    obtain ⟨q13, c13, hf⟩ := br_b hf
    refine x_callS (As := [.int x2, .int x3]) (rest := []) (st1 := [.int q13]) X hR (ctX10_isPoint c13) ml_X10_136 st_X10_isPoint in_X10 co_X10_isPoint yo_X10_isPoint (rm_ok (by decide) (by decide)) rfl hl.1 rfl rfl (Nat.le_of_ble_eq_true rfl) dX10_move_13 ⟨Nat.zero_le _, Nat.zero_le _⟩ (fun H locs hR => ?_)
    refine lv_if_eq (tgt := 44) hx hb dX10_move_16 (by decide) (fun q16 => ?_) (fun q16 => ?_)
    · have hf := (br_if hf).1 q16
      exact wX10_move_44 X hf hR (lv_sub hl [] rfl)
    · have hf := (br_if hf).2 q16
      refine lv_aload_n hx hb dX10_move_19 rfl (lv_at hl 0 rfl) ?_
      refine x_get hx hb hown hts hK hR kX10 (z_0 b) (j := 0) (by decide) fl_X10_12 (v := .ref (eB E + 1)) rfl dX10_move_20 ?_
      refine lv_iload_n hx hb dX10_move_23 rfl (lv_at hl 1 rfl) ?_
      refine lv_iload_n hx hb dX10_move_24 rfl (lv_at hl 2 rfl) ?_
      refine lv_iload_n hx hb dX10_move_25 rfl (lv_at hl 3 rfl) ?_
      obtain ⟨q26, c26, hf⟩ := br_b hf
      refine x_callV (k := 1) (As := [.int x1, .int x2, .int x3]) (rest := []) (st1 := [.int q26]) X hR (ctX8_isAt_t c26) ml_X10_289 im_X8_isAt se_X8_isAt in_X8 co_X8_isAt yo_X8_isAt rfl kX8 (z_1 b) (rm_ok (by decide) (by decide)) rfl hl.1 rfl rfl (Nat.le_of_ble_eq_true rfl) dX10_move_26 ⟨Nat.zero_le _, Nat.zero_le _⟩ (fun H locs hR => ?_)
      refine lv_if_ne (tgt := 44) hx hb dX10_move_29 (by decide) (fun q29 => ?_) (fun q29 => ?_)
      · have hf := (br_if hf).2 q29
        exact wX10_move_44 X hf hR (lv_sub hl [] rfl)
      · have hf := (br_if hf).1 q29
        refine lv_aload_n hx hb dX10_move_32 rfl (lv_at hl 0 rfl) ?_
        refine x_get hx hb hown hts hK hR kX10 (z_0 b) (j := 9) (by decide) fl_X10_76 (v := .ref (eB E + 45)) rfl dX10_move_33 ?_
        refine x_get hx hb hown hts hK hR kX5 (z_45 b) (j := 1) (by decide) fl_X10_98 (v := .int (M.1 45 1)) rfl dX10_move_36 ?_
        refine lv_bipush (v := 40) hx hb dX10_move_39 (by decide) ?_
        refine lv_icmp_lt (tgt := 46) hx hb dX10_move_41 (by decide) (fun q41 => ?_) (fun q41 => ?_)
        · have hf := (br_if hf).1 q41
          refine lv_aload_n hx hb dX10_move_46 rfl (lv_at hl 0 rfl) ?_
          refine x_get hx hb hown hts hK hR kX10 (z_0 b) (j := 2) (by decide) fl_X10_28 (v := .ref (eB E + 21)) rfl dX10_move_47 ?_
          obtain ⟨q50, c50, hf⟩ := br_b hf
          refine x_callV (k := 21) (As := []) (rest := []) (st1 := []) X hR (ctX0_refresh c50) ml_X10_151 im_X0_refresh se_X0_refresh in_X0 co_X0_refresh yo_X0_refresh rfl kX0 (z_21 b) (rm_ok (by decide) (by decide)) rfl hl.1 rfl rfl (Nat.le_of_ble_eq_true rfl) dX10_move_50 ⟨Nat.zero_le _, Nat.zero_le _⟩ (fun H locs hR => ?_)
          refine lv_aload_n hx hb dX10_move_53 rfl (lv_at hl 0 rfl) ?_
          refine x_get hx hb hown hts hK hR kX10 (z_0 b) (j := 9) (by decide) fl_X10_76 (v := .ref (eB E + 45)) rfl dX10_move_54 ?_
          refine lv_iload_n hx hb dX10_move_57 rfl (lv_at hl 1 rfl) ?_
          refine lv_aload_n hx hb dX10_move_58 rfl (lv_at hl 0 rfl) ?_
          refine x_get hx hb hown hts hK hR kX10 (z_0 b) (j := 0) (by decide) fl_X10_12 (v := .ref (eB E + 1)) rfl dX10_move_59 ?_
          refine x_get hx hb hown hts hK hR kX8 (z_1 b) (j := 1) (by decide) fl_X10_108 (v := .ref (eB E + 2)) rfl dX10_move_62 ?_
          refine lv_iload_n hx hb dX10_move_65 rfl (lv_at hl 1 rfl) ?_
          obtain ⟨g66, hf⟩ := br_g hf
          refine x_iald hx hb hK hR (z_2 b) g66 dX10_move_66 ?_
          refine lv_aload_n hx hb dX10_move_67 rfl (lv_at hl 0 rfl) ?_
          refine x_get hx hb hown hts hK hR kX10 (z_0 b) (j := 0) (by decide) fl_X10_12 (v := .ref (eB E + 1)) rfl dX10_move_68 ?_
          refine x_get hx hb hown hts hK hR kX8 (z_1 b) (j := 2) (by decide) fl_X10_112 (v := .ref (eB E + 3)) rfl dX10_move_71 ?_
          refine lv_iload_n hx hb dX10_move_74 rfl (lv_at hl 1 rfl) ?_
          obtain ⟨g75, hf⟩ := br_g hf
          refine x_iald hx hb hK hR (z_3 b) g75 dX10_move_75 ?_
          refine lv_aload_n hx hb dX10_move_76 rfl (lv_at hl 0 rfl) ?_
          refine x_get hx hb hown hts hK hR kX10 (z_0 b) (j := 2) (by decide) fl_X10_28 (v := .ref (eB E + 21)) rfl dX10_move_77 ?_
          refine x_get hx hb hown hts hK hR kX0 (z_21 b) (j := 5) (by decide) fl_X10_293 (v := .int (q50.1 21 5)) rfl dX10_move_80 ?_
          refine lv_aload_n hx hb dX10_move_83 rfl (lv_at hl 0 rfl) ?_
          refine x_get hx hb hown hts hK hR kX10 (z_0 b) (j := 2) (by decide) fl_X10_28 (v := .ref (eB E + 21)) rfl dX10_move_84 ?_
          refine x_get hx hb hown hts hK hR kX0 (z_21 b) (j := 6) (by decide) fl_X10_268 (v := .int (q50.1 21 6)) rfl dX10_move_87 ?_
          obtain ⟨q90, c90, hf⟩ := br_b hf
          refine x_callV (k := 45) (As := [.int x1, .int (q50.1 2 (ix x1)), .int (q50.1 3 (ix x1)), .int (q50.1 21 5), .int (q50.1 21 6)]) (rest := []) (st1 := []) X hR (ctX5_open c90) ml_X10_296 im_X5_open se_X5_open in_X5 co_X5_open yo_X5_open rfl kX5 (z_45 b) (rm_ok (by decide) (by decide)) rfl hl.1 rfl rfl (Nat.le_of_ble_eq_true rfl) dX10_move_90 ⟨Nat.zero_le _, Nat.zero_le _⟩ (fun H locs hR => ?_)
          refine lv_aload_n hx hb dX10_move_93 rfl (lv_at hl 0 rfl) ?_
          refine x_get hx hb hown hts hK hR kX10 (z_0 b) (j := 0) (by decide) fl_X10_12 (v := .ref (eB E + 1)) rfl dX10_move_94 ?_
          refine lv_iload_n hx hb dX10_move_97 rfl (lv_at hl 1 rfl) ?_
          refine lv_iload_n hx hb dX10_move_98 rfl (lv_at hl 2 rfl) ?_
          refine lv_iload_n hx hb dX10_move_99 rfl (lv_at hl 3 rfl) ?_
          obtain ⟨q100, c100, hf⟩ := br_b hf
          refine x_callV (k := 1) (As := [.int x1, .int x2, .int x3]) (rest := []) (st1 := []) X hR (ctX8_put_t c100) ml_X10_300 im_X8_put se_X8_put in_X8 co_X8_put yo_X8_put rfl kX8 (z_1 b) (rm_ok (by decide) (by decide)) rfl hl.1 rfl rfl (Nat.le_of_ble_eq_true rfl) dX10_move_100 ⟨Nat.zero_le _, Nat.zero_le _⟩ (fun H locs hR => ?_)
          refine lv_aload_n hx hb dX10_move_103 rfl (lv_at hl 0 rfl) ?_
          refine x_get hx hb hown hts hK hR kX10 (z_0 b) (j := 2) (by decide) fl_X10_28 (v := .ref (eB E + 21)) rfl dX10_move_104 ?_
          obtain ⟨q107, c107, hf⟩ := br_b hf
          refine x_callV (k := 21) (As := []) (rest := []) (st1 := []) X hR (ctX0_refresh c107) ml_X10_151 im_X0_refresh se_X0_refresh in_X0 co_X0_refresh yo_X0_refresh rfl kX0 (z_21 b) (rm_ok (by decide) (by decide)) rfl hl.1 rfl rfl (Nat.le_of_ble_eq_true rfl) dX10_move_107 ⟨Nat.zero_le _, Nat.zero_le _⟩ (fun H locs hR => ?_)
          refine lv_aload_n hx hb dX10_move_110 rfl (lv_at hl 0 rfl) ?_
          refine x_get hx hb hown hts hK hR kX10 (z_0 b) (j := 9) (by decide) fl_X10_76 (v := .ref (eB E + 45)) rfl dX10_move_111 ?_
          refine lv_iload_n hx hb dX10_move_114 rfl (lv_at hl 2 rfl) ?_
          refine lv_iload_n hx hb dX10_move_115 rfl (lv_at hl 3 rfl) ?_
          refine lv_aload_n hx hb dX10_move_116 rfl (lv_at hl 0 rfl) ?_
          refine x_get hx hb hown hts hK hR kX10 (z_0 b) (j := 2) (by decide) fl_X10_28 (v := .ref (eB E + 21)) rfl dX10_move_117 ?_
          refine x_get hx hb hown hts hK hR kX0 (z_21 b) (j := 5) (by decide) fl_X10_293 (v := .int (q107.1 21 5)) rfl dX10_move_120 ?_
          refine lv_aload_n hx hb dX10_move_123 rfl (lv_at hl 0 rfl) ?_
          refine x_get hx hb hown hts hK hR kX10 (z_0 b) (j := 2) (by decide) fl_X10_28 (v := .ref (eB E + 21)) rfl dX10_move_124 ?_
          refine x_get hx hb hown hts hK hR kX0 (z_21 b) (j := 6) (by decide) fl_X10_268 (v := .int (q107.1 21 6)) rfl dX10_move_127 ?_
          obtain ⟨q130, c130, hf⟩ := br_b hf
          refine x_callV (k := 45) (As := [.int x2, .int x3, .int (q107.1 21 5), .int (q107.1 21 6)]) (rest := []) (st1 := []) X hR (ctX5_close c130) ml_X10_304 im_X5_close se_X5_close in_X5 co_X5_close yo_X5_close rfl kX5 (z_45 b) (rm_ok (by decide) (by decide)) rfl hl.1 rfl rfl (Nat.le_of_ble_eq_true rfl) dX10_move_130 ⟨Nat.zero_le _, Nat.zero_le _⟩ (fun H locs hR => ?_)
          refine lv_aload_n hx hb dX10_move_133 rfl (lv_at hl 0 rfl) ?_
          refine x_get hx hb hown hts hK hR kX10 (z_0 b) (j := 9) (by decide) fl_X10_76 (v := .ref (eB E + 45)) rfl dX10_move_134 ?_
          refine x_get hx hb hown hts hK hR kX5 (z_45 b) (j := 1) (by decide) fl_X10_98 (v := .int (q130.1 45 1)) rfl dX10_move_137 ?_
          cases hf
          exact x_iret hx hb hr hlk hR dX10_move_140
        · have hf := (br_if hf).2 q41
          exact wX10_move_44 X hf hR (lv_sub hl [] rfl)
theorem ctX10_move {l : Launch} {E : Ge} {b : Bool} {M : Mem} {x1 : Int32} {x2 : Int32} {x3 : Int32} {r : Int32} {M1 : Mem} (h : fX10_move x1 x2 x3 M = some (r, M1)) : CT l E yX10_move cX10_move 4 (some .int) 6 0 0 [.ref (eB E + 0), .int x1, .int x2, .int x3] (some (.int r)) (sh_ b) (nn b) M (sh_ b) (nn b) M1 := by
  refine met_of (by decide) (Nat.le_of_ble_eq_true rfl) ?_
  intro p e s m args below meth c X _ hR ls hl
  exact wX10_move_0 X h hR hl
def fX10_moved_25 (M : Mem) : Option Int32 := some (-1 : Int32)
def fX10_moved (M : Mem) (x1 : Int32) (x2 : Int32) : Option Int32 := (if x1 < 0 then fX10_moved_25 M else (if (M.1 45 1) ≤ x1 then fX10_moved_25 M else (if x2 < 0 then fX10_moved_25 M else (if x2 < (9 : Int32) then (fX5_get M x1 x2).bind (fun q33 => some q33) else fX10_moved_25 M))))
set_option maxHeartbeats 4000000 in
set_option maxRecDepth 100000 in
theorem wX10_moved_25 {r : Int32} {M : Mem} (X : CX E p s m args c meth cX10_moved 3 (some .int) RX10) : ∀ {H : Heap} {locs : List Loc} {ls : Array Slot}, fX10_moved_25 M = some r → Rl E (sh_ b) (nn b) s.heap M H locs → lv_has ls 3 [] → W p l e (rm 2 0 0) s m args below meth c H locs 0 0 (MQ below (qq E (some (.int r)) (sh_ b) (nn b) M) args s 0 0 (fr E)) (F0 m 25 ls []) := by
  obtain ⟨hx, hb, hr, hml, hown, hts, hK, hN, hO, hlk, hbs⟩ := id X
  intro H locs ls hf hR hl
  unfold fX10_moved_25 at hf
  refine lv_iconst (v := -1) hx hb dX10_moved_25 (by decide) ?_
  cases hf
  exact x_iret hx hb hr hlk hR dX10_moved_26
set_option maxHeartbeats 4000000 in
set_option maxRecDepth 100000 in
theorem wX10_moved_0 {r : Int32} {M : Mem} (X : CX E p s m args c meth cX10_moved 3 (some .int) RX10) : ∀ {x1 : Int32} {x2 : Int32} {H : Heap} {locs : List Loc} {ls : Array Slot}, fX10_moved M x1 x2 = some r → Rl E (sh_ b) (nn b) s.heap M H locs → lv_has ls 3 [(0, .ref (eB E + 0)), (1, .int x1), (2, .int x2)] → W p l e (rm 2 0 0) s m args below meth c H locs 0 0 (MQ below (qq E (some (.int r)) (sh_ b) (nn b) M) args s 0 0 (fr E)) (F0 m 0 ls []) := by
  obtain ⟨hx, hb, hr, hml, hown, hts, hK, hN, hO, hlk, hbs⟩ := id X
  intro x1 x2 H locs ls hf hR hl
  unfold fX10_moved at hf
  refine lv_iload_n hx hb dX10_moved_0 rfl (lv_at hl 1 rfl) ?_
  refine lv_if_lt (tgt := 25) hx hb dX10_moved_1 (by decide) (fun q1 => ?_) (fun q1 => ?_)
  · have hf := (br_if hf).1 q1
    exact wX10_moved_25 X hf hR (lv_sub hl [] rfl)
  · have hf := (br_if hf).2 q1
    refine lv_iload_n hx hb dX10_moved_4 rfl (lv_at hl 1 rfl) ?_
    refine lv_aload_n hx hb dX10_moved_5 rfl (lv_at hl 0 rfl) ?_
    refine x_get hx hb hown hts hK hR kX10 (z_0 b) (j := 9) (by decide) fl_X10_76 (v := .ref (eB E + 45)) rfl dX10_moved_6 ?_
    refine x_get hx hb hown hts hK hR kX5 (z_45 b) (j := 1) (by decide) fl_X10_98 (v := .int (M.1 45 1)) rfl dX10_moved_9 ?_
    refine lv_icmp_ge (tgt := 25) hx hb dX10_moved_12 (by decide) (fun q12 => ?_) (fun q12 => ?_)
    · have hf := (br_if hf).1 q12
      exact wX10_moved_25 X hf hR (lv_sub hl [] rfl)
    · have hf := (br_if hf).2 q12
      refine lv_iload_n hx hb dX10_moved_15 rfl (lv_at hl 2 rfl) ?_
      refine lv_if_lt (tgt := 25) hx hb dX10_moved_16 (by decide) (fun q16 => ?_) (fun q16 => ?_)
      · have hf := (br_if hf).1 q16
        exact wX10_moved_25 X hf hR (lv_sub hl [] rfl)
      · have hf := (br_if hf).2 q16
        refine lv_iload_n hx hb dX10_moved_19 rfl (lv_at hl 2 rfl) ?_
        refine lv_bipush (v := 9) hx hb dX10_moved_20 (by decide) ?_
        refine lv_icmp_lt (tgt := 27) hx hb dX10_moved_22 (by decide) (fun q22 => ?_) (fun q22 => ?_)
        · have hf := (br_if hf).1 q22
          refine lv_aload_n hx hb dX10_moved_27 rfl (lv_at hl 0 rfl) ?_
          refine x_get hx hb hown hts hK hR kX10 (z_0 b) (j := 9) (by decide) fl_X10_76 (v := .ref (eB E + 45)) rfl dX10_moved_28 ?_
          refine lv_iload_n hx hb dX10_moved_31 rfl (lv_at hl 1 rfl) ?_
          refine lv_iload_n hx hb dX10_moved_32 rfl (lv_at hl 2 rfl) ?_
          obtain ⟨q33, c33, hf⟩ := br_b hf
          refine x_callV (k := 45) (As := [.int x1, .int x2]) (rest := []) (st1 := [.int q33]) X hR (ctX5_get c33) ml_X10_308 im_X5_get se_X5_get in_X5 co_X5_get yo_X5_get rfl kX5 (z_45 b) (rm_ok (by decide) (by decide)) rfl hl.1 rfl rfl (Nat.le_of_ble_eq_true rfl) dX10_moved_33 ⟨Nat.zero_le _, Nat.zero_le _⟩ (fun H locs hR => ?_)
          cases hf
          exact x_iret hx hb hr hlk hR dX10_moved_36
        · have hf := (br_if hf).2 q22
          exact wX10_moved_25 X hf hR (lv_sub hl [] rfl)
theorem ctX10_moved {l : Launch} {E : Ge} {b : Bool} {M : Mem} {x1 : Int32} {x2 : Int32} {r : Int32} (h : fX10_moved M x1 x2 = some r) : CT l E yX10_moved cX10_moved 3 (some .int) 2 0 0 [.ref (eB E + 0), .int x1, .int x2] (some (.int r)) (sh_ b) (nn b) M (sh_ b) (nn b) M := by
  refine met_of (by decide) (Nat.le_of_ble_eq_true rfl) ?_
  intro p e s m args below meth c X _ hR ls hl
  exact wX10_moved_0 X h hR hl
def fX10_need_27 (M : Mem) : Option (Int32 × Mem) := some ((-1 : Int32), M)
def fX10_need_59 (s0 : Int32) (M : Mem) : Option (Int32 × Mem) := some (s0, M)
def fX10_need_29 (x1 : Int32) (M : Mem) : Option (Int32 × Mem) := (fX0_refresh M).bind (fun q33 => (if x1 = (-1 : Int32) then (fX0_leastNeedy q33).bind (fun q45 => fX10_need_59 q45 q33) else (fX0_greatestAgainst q33 x1).bind (fun q56 => fX10_need_59 q56 q33)))
def fX10_need (x1 : Int32) (M : Mem) : Option (Int32 × Mem) := (if (M.1 1 8) < (2 : Int32) then fX10_need_27 M else (if x1 = (-1 : Int32) then fX10_need_29 x1 M else (fX8_hasPlace_t M x1).bind (fun q21 => (if q21 = 0 then fX10_need_27 M else fX10_need_29 x1 M))))
set_option maxHeartbeats 4000000 in
set_option maxRecDepth 100000 in
theorem wX10_need_27 {r : Int32} {M1 : Mem} (X : CX E p s m args c meth cX10_need 2 (some .int) RX10) : ∀ {M : Mem} {H : Heap} {locs : List Loc} {ls : Array Slot}, fX10_need_27 M = some (r, M1) → Rl E (sh_ b) (nn b) s.heap M H locs → lv_has ls 2 [] → W p l e (rm 6 0 0) s m args below meth c H locs 0 0 (MQ below (qq E (some (.int r)) (sh_ b) (nn b) M1) args s 0 0 (fr E)) (F0 m 27 ls []) := by
  obtain ⟨hx, hb, hr, hml, hown, hts, hK, hN, hO, hlk, hbs⟩ := id X
  intro M H locs ls hf hR hl
  unfold fX10_need_27 at hf
  refine lv_iconst (v := -1) hx hb dX10_need_27 (by decide) ?_
  cases hf
  exact x_iret hx hb hr hlk hR dX10_need_28
set_option maxHeartbeats 4000000 in
set_option maxRecDepth 100000 in
theorem wX10_need_59 {r : Int32} {M1 : Mem} (X : CX E p s m args c meth cX10_need 2 (some .int) RX10) : ∀ {s0 : Int32} {M : Mem} {H : Heap} {locs : List Loc} {ls : Array Slot}, fX10_need_59 s0 M = some (r, M1) → Rl E (sh_ b) (nn b) s.heap M H locs → lv_has ls 2 [] → W p l e (rm 6 0 0) s m args below meth c H locs 0 0 (MQ below (qq E (some (.int r)) (sh_ b) (nn b) M1) args s 0 0 (fr E)) (F0 m 59 ls [.int s0]) := by
  obtain ⟨hx, hb, hr, hml, hown, hts, hK, hN, hO, hlk, hbs⟩ := id X
  intro s0 M H locs ls hf hR hl
  unfold fX10_need_59 at hf
  cases hf
  exact x_iret hx hb hr hlk hR dX10_need_59
set_option maxHeartbeats 4000000 in
set_option maxRecDepth 100000 in
theorem wX10_need_29 {r : Int32} {M1 : Mem} (X : CX E p s m args c meth cX10_need 2 (some .int) RX10) : ∀ {x1 : Int32} {M : Mem} {H : Heap} {locs : List Loc} {ls : Array Slot}, fX10_need_29 x1 M = some (r, M1) → Rl E (sh_ b) (nn b) s.heap M H locs → lv_has ls 2 [(0, .ref (eB E + 0)), (1, .int x1)] → W p l e (rm 6 0 0) s m args below meth c H locs 0 0 (MQ below (qq E (some (.int r)) (sh_ b) (nn b) M1) args s 0 0 (fr E)) (F0 m 29 ls []) := by
  obtain ⟨hx, hb, hr, hml, hown, hts, hK, hN, hO, hlk, hbs⟩ := id X
  intro x1 M H locs ls hf hR hl
  unfold fX10_need_29 at hf
  refine lv_aload_n hx hb dX10_need_29 rfl (lv_at hl 0 rfl) ?_
  refine x_get hx hb hown hts hK hR kX10 (z_0 b) (j := 2) (by decide) fl_X10_28 (v := .ref (eB E + 21)) rfl dX10_need_30 ?_
  obtain ⟨q33, c33, hf⟩ := br_b hf
  refine x_callV (k := 21) (As := []) (rest := []) (st1 := []) X hR (ctX0_refresh c33) ml_X10_151 im_X0_refresh se_X0_refresh in_X0 co_X0_refresh yo_X0_refresh rfl kX0 (z_21 b) (rm_ok (by decide) (by decide)) rfl hl.1 rfl rfl (Nat.le_of_ble_eq_true rfl) dX10_need_33 ⟨Nat.zero_le _, Nat.zero_le _⟩ (fun H locs hR => ?_)
  refine lv_iload_n hx hb dX10_need_36 rfl (lv_at hl 1 rfl) ?_
  refine lv_iconst (v := -1) hx hb dX10_need_37 (by decide) ?_
  refine lv_icmp_ne (tgt := 51) hx hb dX10_need_38 (by decide) (fun q38 => ?_) (fun q38 => ?_)
  · have hf := (br_if hf).2 q38
    refine lv_aload_n hx hb dX10_need_51 rfl (lv_at hl 0 rfl) ?_
    refine x_get hx hb hown hts hK hR kX10 (z_0 b) (j := 2) (by decide) fl_X10_28 (v := .ref (eB E + 21)) rfl dX10_need_52 ?_
    refine lv_iload_n hx hb dX10_need_55 rfl (lv_at hl 1 rfl) ?_
    obtain ⟨q56, c56, hf⟩ := br_b hf
    refine x_callV (k := 21) (As := [.int x1]) (rest := []) (st1 := [.int q56]) X hR (ctX0_greatestAgainst c56) ml_X10_262 im_X0_greatestAgainst se_X0_greatestAgainst in_X0 co_X0_greatestAgainst yo_X0_greatestAgainst rfl kX0 (z_21 b) (rm_ok (by decide) (by decide)) rfl hl.1 rfl rfl (Nat.le_of_ble_eq_true rfl) dX10_need_56 ⟨Nat.zero_le _, Nat.zero_le _⟩ (fun H locs hR => ?_)
    exact wX10_need_59 X hf hR (lv_sub hl [] rfl)
  · have hf := (br_if hf).1 q38
    refine lv_aload_n hx hb dX10_need_41 rfl (lv_at hl 0 rfl) ?_
    refine x_get hx hb hown hts hK hR kX10 (z_0 b) (j := 2) (by decide) fl_X10_28 (v := .ref (eB E + 21)) rfl dX10_need_42 ?_
    obtain ⟨q45, c45, hf⟩ := br_b hf
    refine x_callV (k := 21) (As := []) (rest := []) (st1 := [.int q45]) X hR (ctX0_leastNeedy c45) ml_X10_259 im_X0_leastNeedy se_X0_leastNeedy in_X0 co_X0_leastNeedy yo_X0_leastNeedy rfl kX0 (z_21 b) (rm_ok (by decide) (by decide)) rfl hl.1 rfl rfl (Nat.le_of_ble_eq_true rfl) dX10_need_45 ⟨Nat.zero_le _, Nat.zero_le _⟩ (fun H locs hR => ?_)
    refine lv_goto (tgt := 59) hx hb dX10_need_48 (by decide) ?_
    exact wX10_need_59 X hf hR (lv_sub hl [] rfl)
set_option maxHeartbeats 4000000 in
set_option maxRecDepth 100000 in
theorem wX10_need_0 {r : Int32} {M1 : Mem} (X : CX E p s m args c meth cX10_need 2 (some .int) RX10) : ∀ {x1 : Int32} {M : Mem} {H : Heap} {locs : List Loc} {ls : Array Slot}, fX10_need x1 M = some (r, M1) → Rl E (sh_ b) (nn b) s.heap M H locs → lv_has ls 2 [(0, .ref (eB E + 0)), (1, .int x1)] → W p l e (rm 6 0 0) s m args below meth c H locs 0 0 (MQ below (qq E (some (.int r)) (sh_ b) (nn b) M1) args s 0 0 (fr E)) (F0 m 0 ls []) := by
  obtain ⟨hx, hb, hr, hml, hown, hts, hK, hN, hO, hlk, hbs⟩ := id X
  intro x1 M H locs ls hf hR hl
  unfold fX10_need at hf
  refine lv_aload_n hx hb dX10_need_0 rfl (lv_at hl 0 rfl) ?_
  refine x_get hx hb hown hts hK hR kX10 (z_0 b) (j := 0) (by decide) fl_X10_12 (v := .ref (eB E + 1)) rfl dX10_need_1 ?_
  refine x_get hx hb hown hts hK hR kX8 (z_1 b) (j := 8) (by decide) fl_X10_140 (v := .int (M.1 1 8)) rfl dX10_need_4 ?_
  refine lv_iconst (v := 2) hx hb dX10_need_7 (by decide) ?_
  refine lv_icmp_lt (tgt := 27) hx hb dX10_need_8 (by decide) (fun q8 => ?_) (fun q8 => ?_)
  · have hf := (br_if hf).1 q8
    exact wX10_need_27 X hf hR (lv_sub hl [] rfl)
  · have hf := (br_if hf).2 q8
    refine lv_iload_n hx hb dX10_need_11 rfl (lv_at hl 1 rfl) ?_
    refine lv_iconst (v := -1) hx hb dX10_need_12 (by decide) ?_
    refine lv_icmp_eq (tgt := 29) hx hb dX10_need_13 (by decide) (fun q13 => ?_) (fun q13 => ?_)
    · have hf := (br_if hf).1 q13
      exact wX10_need_29 X hf hR hl
    · have hf := (br_if hf).2 q13
      refine lv_aload_n hx hb dX10_need_16 rfl (lv_at hl 0 rfl) ?_
      refine x_get hx hb hown hts hK hR kX10 (z_0 b) (j := 0) (by decide) fl_X10_12 (v := .ref (eB E + 1)) rfl dX10_need_17 ?_
      refine lv_iload_n hx hb dX10_need_20 rfl (lv_at hl 1 rfl) ?_
      obtain ⟨q21, c21, hf⟩ := br_b hf
      refine x_callV (k := 1) (As := [.int x1]) (rest := []) (st1 := [.int q21]) X hR (ctX8_hasPlace_t c21) ml_X10_127 im_X8_hasPlace se_X8_hasPlace in_X8 co_X8_hasPlace yo_X8_hasPlace rfl kX8 (z_1 b) (rm_ok (by decide) (by decide)) rfl hl.1 rfl rfl (Nat.le_of_ble_eq_true rfl) dX10_need_21 ⟨Nat.zero_le _, Nat.zero_le _⟩ (fun H locs hR => ?_)
      refine lv_if_ne (tgt := 29) hx hb dX10_need_24 (by decide) (fun q24 => ?_) (fun q24 => ?_)
      · have hf := (br_if hf).2 q24
        exact wX10_need_29 X hf hR hl
      · have hf := (br_if hf).1 q24
        exact wX10_need_27 X hf hR (lv_sub hl [] rfl)
theorem ctX10_need {l : Launch} {E : Ge} {b : Bool} {M : Mem} {x1 : Int32} {r : Int32} {M1 : Mem} (h : fX10_need x1 M = some (r, M1)) : CT l E yX10_need cX10_need 2 (some .int) 6 0 0 [.ref (eB E + 0), .int x1] (some (.int r)) (sh_ b) (nn b) M (sh_ b) (nn b) M1 := by
  refine met_of (by decide) (Nat.le_of_ble_eq_true rfl) ?_
  intro p e s m args below meth c X _ hR ls hl
  exact wX10_need_0 X h hR hl
def fX10_peace (M : Mem) : Option (Int32 × Mem) := (fX0_refresh M).bind (fun q4 => some ((q4.1 21 6), q4))
set_option maxHeartbeats 4000000 in
set_option maxRecDepth 100000 in
theorem wX10_peace_0 {r : Int32} {M1 : Mem} (X : CX E p s m args c meth cX10_peace 1 (some .int) RX10) : ∀ {M : Mem} {H : Heap} {locs : List Loc} {ls : Array Slot}, fX10_peace M = some (r, M1) → Rl E (sh_ b) (nn b) s.heap M H locs → lv_has ls 1 [(0, .ref (eB E + 0))] → W p l e (rm 6 0 0) s m args below meth c H locs 0 0 (MQ below (qq E (some (.int r)) (sh_ b) (nn b) M1) args s 0 0 (fr E)) (F0 m 0 ls []) := by
  obtain ⟨hx, hb, hr, hml, hown, hts, hK, hN, hO, hlk, hbs⟩ := id X
  intro M H locs ls hf hR hl
  unfold fX10_peace at hf
  refine lv_aload_n hx hb dX10_peace_0 rfl (lv_at hl 0 rfl) ?_
  refine x_get hx hb hown hts hK hR kX10 (z_0 b) (j := 2) (by decide) fl_X10_28 (v := .ref (eB E + 21)) rfl dX10_peace_1 ?_
  obtain ⟨q4, c4, hf⟩ := br_b hf
  refine x_callV (k := 21) (As := []) (rest := []) (st1 := []) X hR (ctX0_refresh c4) ml_X10_151 im_X0_refresh se_X0_refresh in_X0 co_X0_refresh yo_X0_refresh rfl kX0 (z_21 b) (rm_ok (by decide) (by decide)) rfl hl.1 rfl rfl (Nat.le_of_ble_eq_true rfl) dX10_peace_4 ⟨Nat.zero_le _, Nat.zero_le _⟩ (fun H locs hR => ?_)
  refine lv_aload_n hx hb dX10_peace_7 rfl (lv_at hl 0 rfl) ?_
  refine x_get hx hb hown hts hK hR kX10 (z_0 b) (j := 2) (by decide) fl_X10_28 (v := .ref (eB E + 21)) rfl dX10_peace_8 ?_
  refine x_get hx hb hown hts hK hR kX0 (z_21 b) (j := 6) (by decide) fl_X10_268 (v := .int (q4.1 21 6)) rfl dX10_peace_11 ?_
  cases hf
  exact x_iret hx hb hr hlk hR dX10_peace_14
theorem ctX10_peace {l : Launch} {E : Ge} {b : Bool} {M : Mem} {r : Int32} {M1 : Mem} (h : fX10_peace M = some (r, M1)) : CT l E yX10_peace cX10_peace 1 (some .int) 6 0 0 [.ref (eB E + 0)] (some (.int r)) (sh_ b) (nn b) M (sh_ b) (nn b) M1 := by
  refine met_of (by decide) (Nat.le_of_ble_eq_true rfl) ?_
  intro p e s m args below meth c X _ hR ls hl
  exact wX10_peace_0 X h hR hl
def fX10_place_45 (M : Mem) (s0 : Int32) : Option Int32 := some s0
def fX10_place (M : Mem) (x1 : Int32) (x2 : Int32) : Option Int32 := (fX8_hasPlace_t M x1).bind (fun q5 => (if q5 = 0 then some (-1 : Int32) else (if x2 = 0 then (if inb x1 20 = true then some (M.1 8 (ix x1)) else none) else (if x2 = (1 : Int32) then (if inb x1 20 = true then fX10_place_45 M ((M.1 9 (ix x1))) else none) else fX10_place_45 M (-1 : Int32)))))
set_option maxHeartbeats 4000000 in
set_option maxRecDepth 100000 in
theorem wX10_place_45 {r : Int32} {M : Mem} (X : CX E p s m args c meth cX10_place 3 (some .int) RX10) : ∀ {s0 : Int32} {H : Heap} {locs : List Loc} {ls : Array Slot}, fX10_place_45 M s0 = some r → Rl E (sh_ b) (nn b) s.heap M H locs → lv_has ls 3 [] → W p l e (rm 2 0 0) s m args below meth c H locs 0 0 (MQ below (qq E (some (.int r)) (sh_ b) (nn b) M) args s 0 0 (fr E)) (F0 m 45 ls [.int s0]) := by
  obtain ⟨hx, hb, hr, hml, hown, hts, hK, hN, hO, hlk, hbs⟩ := id X
  intro s0 H locs ls hf hR hl
  unfold fX10_place_45 at hf
  cases hf
  exact x_iret hx hb hr hlk hR dX10_place_45
set_option maxHeartbeats 4000000 in
set_option maxRecDepth 100000 in
theorem wX10_place_0 {r : Int32} {M : Mem} (X : CX E p s m args c meth cX10_place 3 (some .int) RX10) : ∀ {x1 : Int32} {x2 : Int32} {H : Heap} {locs : List Loc} {ls : Array Slot}, fX10_place M x1 x2 = some r → Rl E (sh_ b) (nn b) s.heap M H locs → lv_has ls 3 [(0, .ref (eB E + 0)), (1, .int x1), (2, .int x2)] → W p l e (rm 2 0 0) s m args below meth c H locs 0 0 (MQ below (qq E (some (.int r)) (sh_ b) (nn b) M) args s 0 0 (fr E)) (F0 m 0 ls []) := by
  obtain ⟨hx, hb, hr, hml, hown, hts, hK, hN, hO, hlk, hbs⟩ := id X
  intro x1 x2 H locs ls hf hR hl
  unfold fX10_place at hf
  refine lv_aload_n hx hb dX10_place_0 rfl (lv_at hl 0 rfl) ?_
  refine x_get hx hb hown hts hK hR kX10 (z_0 b) (j := 0) (by decide) fl_X10_12 (v := .ref (eB E + 1)) rfl dX10_place_1 ?_
  refine lv_iload_n hx hb dX10_place_4 rfl (lv_at hl 1 rfl) ?_
  obtain ⟨q5, c5, hf⟩ := br_b hf
  refine x_callV (k := 1) (As := [.int x1]) (rest := []) (st1 := [.int q5]) X hR (ctX8_hasPlace_t c5) ml_X10_127 im_X8_hasPlace se_X8_hasPlace in_X8 co_X8_hasPlace yo_X8_hasPlace rfl kX8 (z_1 b) (rm_ok (by decide) (by decide)) rfl hl.1 rfl rfl (Nat.le_of_ble_eq_true rfl) dX10_place_5 ⟨Nat.zero_le _, Nat.zero_le _⟩ (fun H locs hR => ?_)
  refine lv_if_ne (tgt := 13) hx hb dX10_place_8 (by decide) (fun q8 => ?_) (fun q8 => ?_)
  · have hf := (br_if hf).2 q8
    refine lv_iload_n hx hb dX10_place_13 rfl (lv_at hl 2 rfl) ?_
    refine lv_if_ne (tgt := 27) hx hb dX10_place_14 (by decide) (fun q14 => ?_) (fun q14 => ?_)
    · have hf := (br_if hf).2 q14
      refine lv_iload_n hx hb dX10_place_27 rfl (lv_at hl 2 rfl) ?_
      refine lv_iconst (v := 1) hx hb dX10_place_28 (by decide) ?_
      refine lv_icmp_ne (tgt := 44) hx hb dX10_place_29 (by decide) (fun q29 => ?_) (fun q29 => ?_)
      · have hf := (br_if hf).2 q29
        refine lv_iconst (v := -1) hx hb dX10_place_44 (by decide) ?_
        exact wX10_place_45 X hf hR (lv_sub hl [] rfl)
      · have hf := (br_if hf).1 q29
        refine lv_aload_n hx hb dX10_place_32 rfl (lv_at hl 0 rfl) ?_
        refine x_get hx hb hown hts hK hR kX10 (z_0 b) (j := 0) (by decide) fl_X10_12 (v := .ref (eB E + 1)) rfl dX10_place_33 ?_
        refine x_get hx hb hown hts hK hR kX8 (z_1 b) (j := 10) (by decide) fl_X10_133 (v := .ref (eB E + 9)) rfl dX10_place_36 ?_
        refine lv_iload_n hx hb dX10_place_39 rfl (lv_at hl 1 rfl) ?_
        obtain ⟨g40, hf⟩ := br_g hf
        refine x_iald hx hb hK hR (z_9 b) g40 dX10_place_40 ?_
        refine lv_goto (tgt := 45) hx hb dX10_place_41 (by decide) ?_
        exact wX10_place_45 X hf hR (lv_sub hl [] rfl)
    · have hf := (br_if hf).1 q14
      refine lv_aload_n hx hb dX10_place_17 rfl (lv_at hl 0 rfl) ?_
      refine x_get hx hb hown hts hK hR kX10 (z_0 b) (j := 0) (by decide) fl_X10_12 (v := .ref (eB E + 1)) rfl dX10_place_18 ?_
      refine x_get hx hb hown hts hK hR kX8 (z_1 b) (j := 9) (by decide) fl_X10_130 (v := .ref (eB E + 8)) rfl dX10_place_21 ?_
      refine lv_iload_n hx hb dX10_place_24 rfl (lv_at hl 1 rfl) ?_
      obtain ⟨g25, hf⟩ := br_g hf
      refine x_iald hx hb hK hR (z_8 b) g25 dX10_place_25 ?_
      cases hf
      exact x_iret hx hb hr hlk hR dX10_place_26
  · have hf := (br_if hf).1 q8
    refine lv_iconst (v := -1) hx hb dX10_place_11 (by decide) ?_
    cases hf
    exact x_iret hx hb hr hlk hR dX10_place_12
theorem ctX10_place {l : Launch} {E : Ge} {b : Bool} {M : Mem} {x1 : Int32} {x2 : Int32} {r : Int32} (h : fX10_place M x1 x2 = some r) : CT l E yX10_place cX10_place 3 (some .int) 2 0 0 [.ref (eB E + 0), .int x1, .int x2] (some (.int r)) (sh_ b) (nn b) M (sh_ b) (nn b) M := by
  refine met_of (by decide) (Nat.le_of_ble_eq_true rfl) ?_
  intro p e s m args below meth c X _ hR ls hl
  exact wX10_place_0 X h hR hl
def fX10_proof_9 (M : Mem) : Option (Int32 × Mem) := some ((-1 : Int32), M)
def fX10_proof (x1 : Int32) (M : Mem) : Option (Int32 × Mem) := (if x1 < 0 then fX10_proof_9 M else (if x1 ≤ (2 : Int32) then (fX4_refresh M).bind (fun q15 => (if inb x1 3 = true then some ((q15.1 34 (ix x1)), q15) else none)) else fX10_proof_9 M))
set_option maxHeartbeats 4000000 in
set_option maxRecDepth 100000 in
theorem wX10_proof_9 {r : Int32} {M1 : Mem} (X : CX E p s m args c meth cX10_proof 2 (some .int) RX10) : ∀ {M : Mem} {H : Heap} {locs : List Loc} {ls : Array Slot}, fX10_proof_9 M = some (r, M1) → Rl E (sh_ b) (nn b) s.heap M H locs → lv_has ls 2 [] → W p l e (rm 7 0 0) s m args below meth c H locs 0 0 (MQ below (qq E (some (.int r)) (sh_ b) (nn b) M1) args s 0 0 (fr E)) (F0 m 9 ls []) := by
  obtain ⟨hx, hb, hr, hml, hown, hts, hK, hN, hO, hlk, hbs⟩ := id X
  intro M H locs ls hf hR hl
  unfold fX10_proof_9 at hf
  refine lv_iconst (v := -1) hx hb dX10_proof_9 (by decide) ?_
  cases hf
  exact x_iret hx hb hr hlk hR dX10_proof_10
set_option maxHeartbeats 4000000 in
set_option maxRecDepth 100000 in
theorem wX10_proof_0 {r : Int32} {M1 : Mem} (X : CX E p s m args c meth cX10_proof 2 (some .int) RX10) : ∀ {x1 : Int32} {M : Mem} {H : Heap} {locs : List Loc} {ls : Array Slot}, fX10_proof x1 M = some (r, M1) → Rl E (sh_ b) (nn b) s.heap M H locs → lv_has ls 2 [(0, .ref (eB E + 0)), (1, .int x1)] → W p l e (rm 7 0 0) s m args below meth c H locs 0 0 (MQ below (qq E (some (.int r)) (sh_ b) (nn b) M1) args s 0 0 (fr E)) (F0 m 0 ls []) := by
  obtain ⟨hx, hb, hr, hml, hown, hts, hK, hN, hO, hlk, hbs⟩ := id X
  intro x1 M H locs ls hf hR hl
  unfold fX10_proof at hf
  refine lv_iload_n hx hb dX10_proof_0 rfl (lv_at hl 1 rfl) ?_
  refine lv_if_lt (tgt := 9) hx hb dX10_proof_1 (by decide) (fun q1 => ?_) (fun q1 => ?_)
  · have hf := (br_if hf).1 q1
    exact wX10_proof_9 X hf hR (lv_sub hl [] rfl)
  · have hf := (br_if hf).2 q1
    refine lv_iload_n hx hb dX10_proof_4 rfl (lv_at hl 1 rfl) ?_
    refine lv_iconst (v := 2) hx hb dX10_proof_5 (by decide) ?_
    refine lv_icmp_le (tgt := 11) hx hb dX10_proof_6 (by decide) (fun q6 => ?_) (fun q6 => ?_)
    · have hf := (br_if hf).1 q6
      refine lv_aload_n hx hb dX10_proof_11 rfl (lv_at hl 0 rfl) ?_
      refine x_get hx hb hown hts hK hR kX10 (z_0 b) (j := 4) (by decide) fl_X10_44 (v := .ref (eB E + 30)) rfl dX10_proof_12 ?_
      obtain ⟨q15, c15, hf⟩ := br_b hf
      refine x_callV (k := 30) (As := []) (rest := []) (st1 := []) X hR (ctX4_refresh c15) ml_X10_179 im_X4_refresh se_X4_refresh in_X4 co_X4_refresh yo_X4_refresh rfl kX4 (z_30 b) (rm_ok (by decide) (by decide)) rfl hl.1 rfl rfl (Nat.le_of_ble_eq_true rfl) dX10_proof_15 ⟨Nat.zero_le _, Nat.zero_le _⟩ (fun H locs hR => ?_)
      refine lv_aload_n hx hb dX10_proof_18 rfl (lv_at hl 0 rfl) ?_
      refine x_get hx hb hown hts hK hR kX10 (z_0 b) (j := 4) (by decide) fl_X10_44 (v := .ref (eB E + 30)) rfl dX10_proof_19 ?_
      refine x_get hx hb hown hts hK hR kX4 (z_30 b) (j := 6) (by decide) fl_X10_189 (v := .ref (eB E + 34)) rfl dX10_proof_22 ?_
      refine lv_iload_n hx hb dX10_proof_25 rfl (lv_at hl 1 rfl) ?_
      obtain ⟨g26, hf⟩ := br_g hf
      refine x_iald hx hb hK hR (z_34 b) g26 dX10_proof_26 ?_
      cases hf
      exact x_iret hx hb hr hlk hR dX10_proof_27
    · have hf := (br_if hf).2 q6
      exact wX10_proof_9 X hf hR (lv_sub hl [] rfl)
theorem ctX10_proof {l : Launch} {E : Ge} {b : Bool} {M : Mem} {x1 : Int32} {r : Int32} {M1 : Mem} (h : fX10_proof x1 M = some (r, M1)) : CT l E yX10_proof cX10_proof 2 (some .int) 7 0 0 [.ref (eB E + 0), .int x1] (some (.int r)) (sh_ b) (nn b) M (sh_ b) (nn b) M1 := by
  refine met_of (by decide) (Nat.le_of_ble_eq_true rfl) ?_
  intro p e s m args below meth c X _ hR ls hl
  exact wX10_proof_0 X h hR hl
def fX10_propose_30 (M : Mem) : Option (Int32 × Mem) := some ((-1 : Int32), M)
def fX10_propose (x1 : Int32) (x2 : Int32) (M : Mem) : Option (Int32 × Mem) := (if (M.1 1 0) = 0 then fX10_propose_30 M else (fX10_isPoint M x1 x2).bind (fun q12 => (if q12 = 0 then fX10_propose_30 M else (if (M.1 1 8) < (20 : Int32) then (fX8_addPlace_t x1 x2 M).bind (fun q38 => some (((q38.1 1 8) - (1 : Int32)), q38)) else fX10_propose_30 M))))
set_option maxHeartbeats 4000000 in
set_option maxRecDepth 100000 in
theorem wX10_propose_30 {r : Int32} {M1 : Mem} (X : CX E p s m args c meth cX10_propose 3 (some .int) RX10) : ∀ {M : Mem} {H : Heap} {locs : List Loc} {ls : Array Slot}, fX10_propose_30 M = some (r, M1) → Rl E (sh_ b) (nn b) s.heap M H locs → lv_has ls 3 [] → W p l e (rm 2 0 0) s m args below meth c H locs 0 0 (MQ below (qq E (some (.int r)) (sh_ b) (nn b) M1) args s 0 0 (fr E)) (F0 m 30 ls []) := by
  obtain ⟨hx, hb, hr, hml, hown, hts, hK, hN, hO, hlk, hbs⟩ := id X
  intro M H locs ls hf hR hl
  unfold fX10_propose_30 at hf
  refine lv_iconst (v := -1) hx hb dX10_propose_30 (by decide) ?_
  cases hf
  exact x_iret hx hb hr hlk hR dX10_propose_31
set_option maxHeartbeats 4000000 in
set_option maxRecDepth 100000 in
theorem wX10_propose_0 {r : Int32} {M1 : Mem} (X : CX E p s m args c meth cX10_propose 3 (some .int) RX10) : ∀ {x1 : Int32} {x2 : Int32} {M : Mem} {H : Heap} {locs : List Loc} {ls : Array Slot}, fX10_propose x1 x2 M = some (r, M1) → Rl E (sh_ b) (nn b) s.heap M H locs → lv_has ls 3 [(0, .ref (eB E + 0)), (1, .int x1), (2, .int x2)] → W p l e (rm 2 0 0) s m args below meth c H locs 0 0 (MQ below (qq E (some (.int r)) (sh_ b) (nn b) M1) args s 0 0 (fr E)) (F0 m 0 ls []) := by
  obtain ⟨hx, hb, hr, hml, hown, hts, hK, hN, hO, hlk, hbs⟩ := id X
  intro x1 x2 M H locs ls hf hR hl
  unfold fX10_propose at hf
  refine lv_aload_n hx hb dX10_propose_0 rfl (lv_at hl 0 rfl) ?_
  refine x_get hx hb hown hts hK hR kX10 (z_0 b) (j := 0) (by decide) fl_X10_12 (v := .ref (eB E + 1)) rfl dX10_propose_1 ?_
  refine x_get hx hb hown hts hK hR kX8 (z_1 b) (j := 0) (by decide) fl_X10_101 (v := .int (M.1 1 0)) rfl dX10_propose_4 ?_
  refine lv_if_eq (tgt := 30) hx hb dX10_propose_7 (by decide) (fun q7 => ?_) (fun q7 => ?_)
  · have hf := (br_if hf).1 q7
    exact wX10_propose_30 X hf hR (lv_sub hl [] rfl)
  · have hf := (br_if hf).2 q7
    refine lv_iload_n hx hb dX10_propose_10 rfl (lv_at hl 1 rfl) ?_
    refine lv_iload_n hx hb dX10_propose_11 rfl (lv_at hl 2 rfl) ?_
    obtain ⟨q12, c12, hf⟩ := br_b hf
    refine x_callS (As := [.int x1, .int x2]) (rest := []) (st1 := [.int q12]) X hR (ctX10_isPoint c12) ml_X10_136 st_X10_isPoint in_X10 co_X10_isPoint yo_X10_isPoint (rm_ok (by decide) (by decide)) rfl hl.1 rfl rfl (Nat.le_of_ble_eq_true rfl) dX10_propose_12 ⟨Nat.zero_le _, Nat.zero_le _⟩ (fun H locs hR => ?_)
    refine lv_if_eq (tgt := 30) hx hb dX10_propose_15 (by decide) (fun q15 => ?_) (fun q15 => ?_)
    · have hf := (br_if hf).1 q15
      exact wX10_propose_30 X hf hR (lv_sub hl [] rfl)
    · have hf := (br_if hf).2 q15
      refine lv_aload_n hx hb dX10_propose_18 rfl (lv_at hl 0 rfl) ?_
      refine x_get hx hb hown hts hK hR kX10 (z_0 b) (j := 0) (by decide) fl_X10_12 (v := .ref (eB E + 1)) rfl dX10_propose_19 ?_
      refine x_get hx hb hown hts hK hR kX8 (z_1 b) (j := 8) (by decide) fl_X10_140 (v := .int (M.1 1 8)) rfl dX10_propose_22 ?_
      refine lv_bipush (v := 20) hx hb dX10_propose_25 (by decide) ?_
      refine lv_icmp_lt (tgt := 32) hx hb dX10_propose_27 (by decide) (fun q27 => ?_) (fun q27 => ?_)
      · have hf := (br_if hf).1 q27
        refine lv_aload_n hx hb dX10_propose_32 rfl (lv_at hl 0 rfl) ?_
        refine x_get hx hb hown hts hK hR kX10 (z_0 b) (j := 0) (by decide) fl_X10_12 (v := .ref (eB E + 1)) rfl dX10_propose_33 ?_
        refine lv_iload_n hx hb dX10_propose_36 rfl (lv_at hl 1 rfl) ?_
        refine lv_iload_n hx hb dX10_propose_37 rfl (lv_at hl 2 rfl) ?_
        obtain ⟨q38, c38, hf⟩ := br_b hf
        refine x_callV (k := 1) (As := [.int x1, .int x2]) (rest := []) (st1 := []) X hR (ctX8_addPlace_t c38) ml_X10_143 im_X8_addPlace se_X8_addPlace in_X8 co_X8_addPlace yo_X8_addPlace rfl kX8 (z_1 b) (rm_ok (by decide) (by decide)) rfl hl.1 rfl rfl (Nat.le_of_ble_eq_true rfl) dX10_propose_38 ⟨Nat.zero_le _, Nat.zero_le _⟩ (fun H locs hR => ?_)
        refine lv_aload_n hx hb dX10_propose_41 rfl (lv_at hl 0 rfl) ?_
        refine x_get hx hb hown hts hK hR kX10 (z_0 b) (j := 0) (by decide) fl_X10_12 (v := .ref (eB E + 1)) rfl dX10_propose_42 ?_
        refine x_get hx hb hown hts hK hR kX8 (z_1 b) (j := 8) (by decide) fl_X10_140 (v := .int (q38.1 1 8)) rfl dX10_propose_45 ?_
        refine lv_iconst (v := 1) hx hb dX10_propose_48 (by decide) ?_
        refine lv_isub hx hb dX10_propose_49 ?_
        cases hf
        exact x_iret hx hb hr hlk hR dX10_propose_50
      · have hf := (br_if hf).2 q27
        exact wX10_propose_30 X hf hR (lv_sub hl [] rfl)
theorem ctX10_propose {l : Launch} {E : Ge} {b : Bool} {M : Mem} {x1 : Int32} {x2 : Int32} {r : Int32} {M1 : Mem} (h : fX10_propose x1 x2 M = some (r, M1)) : CT l E yX10_propose cX10_propose 3 (some .int) 2 0 0 [.ref (eB E + 0), .int x1, .int x2] (some (.int r)) (sh_ b) (nn b) M (sh_ b) (nn b) M1 := by
  refine met_of (by decide) (Nat.le_of_ble_eq_true rfl) ?_
  intro p e s m args below meth c X _ hR ls hl
  exact wX10_propose_0 X h hR hl
def fX10_rest (M : Mem) : Option (Int32 × Mem) := (fX0_refresh M).bind (fun q4 => (fX3_refresh q4).bind (fun q11 => some ((q11.1 36 7), q11)))
set_option maxHeartbeats 4000000 in
set_option maxRecDepth 100000 in
theorem wX10_rest_0 {r : Int32} {M1 : Mem} (X : CX E p s m args c meth cX10_rest 1 (some .int) RX10) : ∀ {M : Mem} {H : Heap} {locs : List Loc} {ls : Array Slot}, fX10_rest M = some (r, M1) → Rl E (sh_ b) (nn b) s.heap M H locs → lv_has ls 1 [(0, .ref (eB E + 0))] → W p l e (rm 6 0 0) s m args below meth c H locs 0 0 (MQ below (qq E (some (.int r)) (sh_ b) (nn b) M1) args s 0 0 (fr E)) (F0 m 0 ls []) := by
  obtain ⟨hx, hb, hr, hml, hown, hts, hK, hN, hO, hlk, hbs⟩ := id X
  intro M H locs ls hf hR hl
  unfold fX10_rest at hf
  refine lv_aload_n hx hb dX10_rest_0 rfl (lv_at hl 0 rfl) ?_
  refine x_get hx hb hown hts hK hR kX10 (z_0 b) (j := 2) (by decide) fl_X10_28 (v := .ref (eB E + 21)) rfl dX10_rest_1 ?_
  obtain ⟨q4, c4, hf⟩ := br_b hf
  refine x_callV (k := 21) (As := []) (rest := []) (st1 := []) X hR (ctX0_refresh c4) ml_X10_151 im_X0_refresh se_X0_refresh in_X0 co_X0_refresh yo_X0_refresh rfl kX0 (z_21 b) (rm_ok (by decide) (by decide)) rfl hl.1 rfl rfl (Nat.le_of_ble_eq_true rfl) dX10_rest_4 ⟨Nat.zero_le _, Nat.zero_le _⟩ (fun H locs hR => ?_)
  refine lv_aload_n hx hb dX10_rest_7 rfl (lv_at hl 0 rfl) ?_
  refine x_get hx hb hown hts hK hR kX10 (z_0 b) (j := 7) (by decide) fl_X10_62 (v := .ref (eB E + 36)) rfl dX10_rest_8 ?_
  obtain ⟨q11, c11, hf⟩ := br_b hf
  refine x_callV (k := 36) (As := []) (rest := []) (st1 := []) X hR (ctX3_refresh c11) ml_X10_244 im_X3_refresh se_X3_refresh in_X3 co_X3_refresh yo_X3_refresh rfl kX3 (z_36 b) (rm_ok (by decide) (by decide)) rfl hl.1 rfl rfl (Nat.le_of_ble_eq_true rfl) dX10_rest_11 ⟨Nat.zero_le _, Nat.zero_le _⟩ (fun H locs hR => ?_)
  refine lv_aload_n hx hb dX10_rest_14 rfl (lv_at hl 0 rfl) ?_
  refine x_get hx hb hown hts hK hR kX10 (z_0 b) (j := 7) (by decide) fl_X10_62 (v := .ref (eB E + 36)) rfl dX10_rest_15 ?_
  refine x_get hx hb hown hts hK hR kX3 (z_36 b) (j := 7) (by decide) fl_X10_245 (v := .int (q11.1 36 7)) rfl dX10_rest_18 ?_
  cases hf
  exact x_iret hx hb hr hlk hR dX10_rest_21
theorem ctX10_rest {l : Launch} {E : Ge} {b : Bool} {M : Mem} {r : Int32} {M1 : Mem} (h : fX10_rest M = some (r, M1)) : CT l E yX10_rest cX10_rest 1 (some .int) 6 0 0 [.ref (eB E + 0)] (some (.int r)) (sh_ b) (nn b) M (sh_ b) (nn b) M1 := by
  refine met_of (by decide) (Nat.le_of_ble_eq_true rfl) ?_
  intro p e s m args below meth c X _ hR ls hl
  exact wX10_rest_0 X h hR hl
def fX10_round_19 (M : Mem) : Option (Int32 × Mem) := some ((-1 : Int32), M)
def fX10_round (x1 : Int32) (M : Mem) : Option (Int32 × Mem) := (if (M.1 1 0) = 0 then fX10_round_19 M else (if x1 < 0 then fX10_round_19 M else (if x1 ≤ (3 : Int32) then (fX7_refresh M).bind (fun q25 => (if x1 = (0 : Int32) then some ((q25.1 35 1), q25) else (if x1 = (1 : Int32) then some ((q25.1 35 2), q25) else (if x1 = (2 : Int32) then some ((q25.2 35 3).toInt32, q25) else some ((q25.2 35 4).toInt32, q25))))) else fX10_round_19 M)))
set_option maxHeartbeats 4000000 in
set_option maxRecDepth 100000 in
theorem wX10_round_19 {r : Int32} {M1 : Mem} (X : CX E p s m args c meth cX10_round 2 (some .int) RX10) : ∀ {M : Mem} {H : Heap} {locs : List Loc} {ls : Array Slot}, fX10_round_19 M = some (r, M1) → Rl E (sh_ b) (nn b) s.heap M H locs → lv_has ls 2 [] → W p l e (rm 7 0 0) s m args below meth c H locs 0 0 (MQ below (qq E (some (.int r)) (sh_ b) (nn b) M1) args s 0 0 (fr E)) (F0 m 19 ls []) := by
  obtain ⟨hx, hb, hr, hml, hown, hts, hK, hN, hO, hlk, hbs⟩ := id X
  intro M H locs ls hf hR hl
  unfold fX10_round_19 at hf
  refine lv_iconst (v := -1) hx hb dX10_round_19 (by decide) ?_
  cases hf
  exact x_iret hx hb hr hlk hR dX10_round_20
set_option maxHeartbeats 4000000 in
set_option maxRecDepth 100000 in
theorem wX10_round_0 {r : Int32} {M1 : Mem} (X : CX E p s m args c meth cX10_round 2 (some .int) RX10) : ∀ {x1 : Int32} {M : Mem} {H : Heap} {locs : List Loc} {ls : Array Slot}, fX10_round x1 M = some (r, M1) → Rl E (sh_ b) (nn b) s.heap M H locs → lv_has ls 2 [(0, .ref (eB E + 0)), (1, .int x1)] → W p l e (rm 7 0 0) s m args below meth c H locs 0 0 (MQ below (qq E (some (.int r)) (sh_ b) (nn b) M1) args s 0 0 (fr E)) (F0 m 0 ls []) := by
  obtain ⟨hx, hb, hr, hml, hown, hts, hK, hN, hO, hlk, hbs⟩ := id X
  intro x1 M H locs ls hf hR hl
  unfold fX10_round at hf
  refine lv_aload_n hx hb dX10_round_0 rfl (lv_at hl 0 rfl) ?_
  refine x_get hx hb hown hts hK hR kX10 (z_0 b) (j := 0) (by decide) fl_X10_12 (v := .ref (eB E + 1)) rfl dX10_round_1 ?_
  refine x_get hx hb hown hts hK hR kX8 (z_1 b) (j := 0) (by decide) fl_X10_101 (v := .int (M.1 1 0)) rfl dX10_round_4 ?_
  refine lv_if_eq (tgt := 19) hx hb dX10_round_7 (by decide) (fun q7 => ?_) (fun q7 => ?_)
  · have hf := (br_if hf).1 q7
    exact wX10_round_19 X hf hR (lv_sub hl [] rfl)
  · have hf := (br_if hf).2 q7
    refine lv_iload_n hx hb dX10_round_10 rfl (lv_at hl 1 rfl) ?_
    refine lv_if_lt (tgt := 19) hx hb dX10_round_11 (by decide) (fun q11 => ?_) (fun q11 => ?_)
    · have hf := (br_if hf).1 q11
      exact wX10_round_19 X hf hR (lv_sub hl [] rfl)
    · have hf := (br_if hf).2 q11
      refine lv_iload_n hx hb dX10_round_14 rfl (lv_at hl 1 rfl) ?_
      refine lv_iconst (v := 3) hx hb dX10_round_15 (by decide) ?_
      refine lv_icmp_le (tgt := 21) hx hb dX10_round_16 (by decide) (fun q16 => ?_) (fun q16 => ?_)
      · have hf := (br_if hf).1 q16
        refine lv_aload_n hx hb dX10_round_21 rfl (lv_at hl 0 rfl) ?_
        refine x_get hx hb hown hts hK hR kX10 (z_0 b) (j := 5) (by decide) fl_X10_53 (v := .ref (eB E + 35)) rfl dX10_round_22 ?_
        obtain ⟨q25, c25, hf⟩ := br_b hf
        refine x_callV (k := 35) (As := []) (rest := []) (st1 := []) X hR (ctX7_refresh c25) ml_X10_192 im_X7_refresh se_X7_refresh in_X7 co_X7_refresh yo_X7_refresh rfl kX7 (z_35 b) (rm_ok (by decide) (by decide)) rfl hl.1 rfl rfl (Nat.le_of_ble_eq_true rfl) dX10_round_25 ⟨Nat.zero_le _, Nat.zero_le _⟩ (fun H locs hR => ?_)
        refine lv_iload_n hx hb dX10_round_28 rfl (lv_at hl 1 rfl) ?_
        by_cases q29_0 : x1 = (0 : Int32)
        · have hf := (br_if hf).1 q29_0
          refine x_tsw (v := 0) (tgt := 56) hx hb dX10_round_29 q29_0 (by decide) (by decide) (off := 27) (by decide) (by decide) ?_
          refine lv_aload_n hx hb dX10_round_56 rfl (lv_at hl 0 rfl) ?_
          refine x_get hx hb hown hts hK hR kX10 (z_0 b) (j := 5) (by decide) fl_X10_53 (v := .ref (eB E + 35)) rfl dX10_round_57 ?_
          refine x_get hx hb hown hts hK hR kX7 (z_35 b) (j := 1) (by decide) fl_X10_193 (v := .int (q25.1 35 1)) rfl dX10_round_60 ?_
          cases hf
          exact x_iret hx hb hr hlk hR dX10_round_63
        · have hf := (br_if hf).2 q29_0
          by_cases q29_1 : x1 = (1 : Int32)
          · have hf := (br_if hf).1 q29_1
            refine x_tsw (v := 1) (tgt := 64) hx hb dX10_round_29 q29_1 (by decide) (by decide) (off := 35) (by decide) (by decide) ?_
            refine lv_aload_n hx hb dX10_round_64 rfl (lv_at hl 0 rfl) ?_
            refine x_get hx hb hown hts hK hR kX10 (z_0 b) (j := 5) (by decide) fl_X10_53 (v := .ref (eB E + 35)) rfl dX10_round_65 ?_
            refine x_get hx hb hown hts hK hR kX7 (z_35 b) (j := 2) (by decide) fl_X10_195 (v := .int (q25.1 35 2)) rfl dX10_round_68 ?_
            cases hf
            exact x_iret hx hb hr hlk hR dX10_round_71
          · have hf := (br_if hf).2 q29_1
            by_cases q29_2 : x1 = (2 : Int32)
            · have hf := (br_if hf).1 q29_2
              refine x_tsw (v := 2) (tgt := 72) hx hb dX10_round_29 q29_2 (by decide) (by decide) (off := 43) (by decide) (by decide) ?_
              refine lv_aload_n hx hb dX10_round_72 rfl (lv_at hl 0 rfl) ?_
              refine x_get hx hb hown hts hK hR kX10 (z_0 b) (j := 5) (by decide) fl_X10_53 (v := .ref (eB E + 35)) rfl dX10_round_73 ?_
              refine x_get hx hb hown hts hK hR kX7 (z_35 b) (j := 3) (by decide) fl_X10_197 (v := .long (q25.2 35 3)) rfl dX10_round_76 ?_
              refine lv_l2i (v := (q25.2 35 3).toInt32) hx hb dX10_round_79 rfl ?_
              cases hf
              exact x_iret hx hb hr hlk hR dX10_round_80
            · have hf := (br_if hf).2 q29_2
              refine lv_tableOut (tgt := 81) hx hb dX10_round_29 (by have a0 := lv_neT q29_0 (show (0 : Int32).toInt = 0 from rfl); have a1 := lv_neT q29_1 (show (1 : Int32).toInt = 1 from rfl); have a2 := lv_neT q29_2 (show (2 : Int32).toInt = 2 from rfl); omega) (by decide) ?_
              refine lv_aload_n hx hb dX10_round_81 rfl (lv_at hl 0 rfl) ?_
              refine x_get hx hb hown hts hK hR kX10 (z_0 b) (j := 5) (by decide) fl_X10_53 (v := .ref (eB E + 35)) rfl dX10_round_82 ?_
              refine x_get hx hb hown hts hK hR kX7 (z_35 b) (j := 4) (by decide) fl_X10_201 (v := .long (q25.2 35 4)) rfl dX10_round_85 ?_
              refine lv_l2i (v := (q25.2 35 4).toInt32) hx hb dX10_round_88 rfl ?_
              cases hf
              exact x_iret hx hb hr hlk hR dX10_round_89
      · have hf := (br_if hf).2 q16
        exact wX10_round_19 X hf hR (lv_sub hl [] rfl)
theorem ctX10_round {l : Launch} {E : Ge} {b : Bool} {M : Mem} {x1 : Int32} {r : Int32} {M1 : Mem} (h : fX10_round x1 M = some (r, M1)) : CT l E yX10_round cX10_round 2 (some .int) 7 0 0 [.ref (eB E + 0), .int x1] (some (.int r)) (sh_ b) (nn b) M (sh_ b) (nn b) M1 := by
  refine met_of (by decide) (Nat.le_of_ble_eq_true rfl) ?_
  intro p e s m args below meth c X _ hR ls hl
  exact wX10_round_0 X h hR hl
def fX10_sheet (M : Mem) : Option (Int32 × Mem) := (fX6_findFault M).bind (fun q4 => (if q4.1 = (-1 : Int32) then (fX8_takeFrom_t q4.2).bind (fun q24 => nx (sI q24 10 1 (0 : Int32)) (fun M32 => nx (sI M32 45 1 (0 : Int32)) (fun M40 => some ((M40.1 1 0), M40)))) else some ((-1 : Int32), q4.2)))
set_option maxHeartbeats 4000000 in
set_option maxRecDepth 100000 in
theorem wX10_sheet_0 {r : Int32} {M1 : Mem} (X : CX E p s m args c meth cX10_sheet 1 (some .int) RX10) : ∀ {M : Mem} {H : Heap} {locs : List Loc} {ls : Array Slot}, fX10_sheet M = some (r, M1) → Rl E (sh_ b) (nn b) s.heap M H locs → lv_has ls 1 [(0, .ref (eB E + 0))] → W p l e (rm 11 0 0) s m args below meth c H locs 0 0 (MQ below (qq E (some (.int r)) (sh_ b) (nn b) M1) args s 0 0 (fr E)) (F0 m 0 ls []) := by
  obtain ⟨hx, hb, hr, hml, hown, hts, hK, hN, hO, hlk, hbs⟩ := id X
  intro M H locs ls hf hR hl
  unfold fX10_sheet at hf
  refine lv_aload_n hx hb dX10_sheet_0 rfl (lv_at hl 0 rfl) ?_
  refine x_get hx hb hown hts hK hR kX10 (z_0 b) (j := 1) (by decide) fl_X10_19 (v := .ref (eB E + 10)) rfl dX10_sheet_1 ?_
  obtain ⟨q4, c4, hf⟩ := br_b hf
  refine x_callV (k := 10) (As := []) (rest := []) (st1 := [.int q4.1]) X hR (ctX6_findFault c4) ml_X10_88 im_X6_findFault se_X6_findFault in_X6 co_X6_findFault yo_X6_findFault rfl kX6 (z_10 b) (rm_ok (by decide) (by decide)) rfl hl.1 rfl rfl (Nat.le_of_ble_eq_true rfl) dX10_sheet_4 ⟨Nat.zero_le _, Nat.zero_le _⟩ (fun H locs hR => ?_)
  refine lv_iconst (v := -1) hx hb dX10_sheet_7 (by decide) ?_
  refine lv_icmp_eq (tgt := 13) hx hb dX10_sheet_8 (by decide) (fun q8 => ?_) (fun q8 => ?_)
  · have hf := (br_if hf).1 q8
    refine lv_aload_n hx hb dX10_sheet_13 rfl (lv_at hl 0 rfl) ?_
    refine x_get hx hb hown hts hK hR kX10 (z_0 b) (j := 0) (by decide) fl_X10_12 (v := .ref (eB E + 1)) rfl dX10_sheet_14 ?_
    refine lv_aload_n hx hb dX10_sheet_17 rfl (lv_at hl 0 rfl) ?_
    refine x_get hx hb hown hts hK hR kX10 (z_0 b) (j := 1) (by decide) fl_X10_19 (v := .ref (eB E + 10)) rfl dX10_sheet_18 ?_
    refine x_get hx hb hown hts hK hR kX6 (z_10 b) (j := 2) (by decide) fl_X10_92 (v := .ref (eB E + 12)) rfl dX10_sheet_21 ?_
    obtain ⟨q24, c24, hf⟩ := br_b hf
    refine x_callV (k := 1) (As := [.ref (eB E + 12)]) (rest := []) (st1 := []) X hR (ctX8_takeFrom_t c24) ml_X10_95 im_X8_takeFrom se_X8_takeFrom in_X8 co_X8_takeFrom yo_X8_takeFrom rfl kX8 (z_1 b) (rm_ok (by decide) (by decide)) rfl hl.1 rfl rfl (Nat.le_of_ble_eq_true rfl) dX10_sheet_24 ⟨Nat.zero_le _, Nat.zero_le _⟩ (fun H locs hR => ?_)
    refine lv_aload_n hx hb dX10_sheet_27 rfl (lv_at hl 0 rfl) ?_
    refine x_get hx hb hown hts hK hR kX10 (z_0 b) (j := 1) (by decide) fl_X10_19 (v := .ref (eB E + 10)) rfl dX10_sheet_28 ?_
    refine lv_iconst (v := 0) hx hb dX10_sheet_31 (by decide) ?_
    refine x_puti hx hb hown hts hK hR kX6 (z_10 b) (j := 1) (by decide) fl_X10_80 rfl rfl rfl rfl dX10_sheet_32 (fun H locs hR => ?_)
    obtain ⟨M32, e32⟩ : ∃ y : Mem, y = (sI q24 10 1 (0 : Int32)) := ⟨_, rfl⟩
    have hf := nx_at e32 hf
    have hR : Rl E (sh_ b) (nn b) s.heap M32 H locs := by rw [e32]; exact hR
    refine lv_aload_n hx hb dX10_sheet_35 rfl (lv_at hl 0 rfl) ?_
    refine x_get hx hb hown hts hK hR kX10 (z_0 b) (j := 9) (by decide) fl_X10_76 (v := .ref (eB E + 45)) rfl dX10_sheet_36 ?_
    refine lv_iconst (v := 0) hx hb dX10_sheet_39 (by decide) ?_
    refine x_puti hx hb hown hts hK hR kX5 (z_45 b) (j := 1) (by decide) fl_X10_98 rfl rfl rfl rfl dX10_sheet_40 (fun H locs hR => ?_)
    obtain ⟨M40, e40⟩ : ∃ y : Mem, y = (sI M32 45 1 (0 : Int32)) := ⟨_, rfl⟩
    have hf := nx_at e40 hf
    have hR : Rl E (sh_ b) (nn b) s.heap M40 H locs := by rw [e40]; exact hR
    refine lv_aload_n hx hb dX10_sheet_43 rfl (lv_at hl 0 rfl) ?_
    refine x_get hx hb hown hts hK hR kX10 (z_0 b) (j := 0) (by decide) fl_X10_12 (v := .ref (eB E + 1)) rfl dX10_sheet_44 ?_
    refine x_get hx hb hown hts hK hR kX8 (z_1 b) (j := 0) (by decide) fl_X10_101 (v := .int (M40.1 1 0)) rfl dX10_sheet_47 ?_
    cases hf
    exact x_iret hx hb hr hlk hR dX10_sheet_50
  · have hf := (br_if hf).2 q8
    refine lv_iconst (v := -1) hx hb dX10_sheet_11 (by decide) ?_
    cases hf
    exact x_iret hx hb hr hlk hR dX10_sheet_12
theorem ctX10_sheet {l : Launch} {E : Ge} {b : Bool} {M : Mem} {r : Int32} {M1 : Mem} (h : fX10_sheet M = some (r, M1)) : CT l E yX10_sheet cX10_sheet 1 (some .int) 11 0 0 [.ref (eB E + 0)] (some (.int r)) (sh_ b) (nn b) M (sh_ b) (nn b) M1 := by
  refine met_of (by decide) (Nat.le_of_ble_eq_true rfl) ?_
  intro p e s m args below meth c X _ hR ls hl
  exact wX10_sheet_0 X h hR hl
def fX10_undo (M : Mem) : Option (Int32 × Mem) := (if (M.1 45 1) = 0 then some ((-1 : Int32), M) else nx ((M.1 45 1) - (1 : Int32)) (fun v21 => (fX5_get M v21 (0 : Int32)).bind (fun q28 => (fX5_get M v21 (1 : Int32)).bind (fun q43 => (fX5_get M v21 (2 : Int32)).bind (fun q52 => (fX8_put_t q28 q43 q52 M).bind (fun q55 => nx (sI q55 45 1 v21) (fun M63 => some (q28, M63))))))))
set_option maxHeartbeats 4000000 in
set_option maxRecDepth 100000 in
theorem wX10_undo_0 {r : Int32} {M1 : Mem} (X : CX E p s m args c meth cX10_undo 3 (some .int) RX10) : ∀ {M : Mem} {H : Heap} {locs : List Loc} {ls : Array Slot}, fX10_undo M = some (r, M1) → Rl E (sh_ b) (nn b) s.heap M H locs → lv_has ls 3 [(0, .ref (eB E + 0))] → W p l e (rm 3 0 0) s m args below meth c H locs 0 0 (MQ below (qq E (some (.int r)) (sh_ b) (nn b) M1) args s 0 0 (fr E)) (F0 m 0 ls []) := by
  obtain ⟨hx, hb, hr, hml, hown, hts, hK, hN, hO, hlk, hbs⟩ := id X
  intro M H locs ls hf hR hl
  unfold fX10_undo at hf
  refine lv_aload_n hx hb dX10_undo_0 rfl (lv_at hl 0 rfl) ?_
  refine x_get hx hb hown hts hK hR kX10 (z_0 b) (j := 9) (by decide) fl_X10_76 (v := .ref (eB E + 45)) rfl dX10_undo_1 ?_
  refine x_get hx hb hown hts hK hR kX5 (z_45 b) (j := 1) (by decide) fl_X10_98 (v := .int (M.1 45 1)) rfl dX10_undo_4 ?_
  refine lv_if_ne (tgt := 12) hx hb dX10_undo_7 (by decide) (fun q7 => ?_) (fun q7 => ?_)
  · have hf := (br_if hf).2 q7
    refine lv_aload_n hx hb dX10_undo_12 rfl (lv_at hl 0 rfl) ?_
    refine x_get hx hb hown hts hK hR kX10 (z_0 b) (j := 9) (by decide) fl_X10_76 (v := .ref (eB E + 45)) rfl dX10_undo_13 ?_
    refine x_get hx hb hown hts hK hR kX5 (z_45 b) (j := 1) (by decide) fl_X10_98 (v := .int (M.1 45 1)) rfl dX10_undo_16 ?_
    refine lv_iconst (v := 1) hx hb dX10_undo_19 (by decide) ?_
    refine lv_isub hx hb dX10_undo_20 ?_
    refine lv_topi (fun v21 e21 => ?_)
    have hf := nx_at e21 hf
    refine lv_istore_n (lv' := [(1, .int v21), (0, .ref (eB E + 0))]) hx hb dX10_undo_21 rfl hl (by decide) rfl (fun ls hl => ?_)
    refine lv_aload_n hx hb dX10_undo_22 rfl (lv_at hl 1 rfl) ?_
    refine x_get hx hb hown hts hK hR kX10 (z_0 b) (j := 9) (by decide) fl_X10_76 (v := .ref (eB E + 45)) rfl dX10_undo_23 ?_
    refine lv_iload_n hx hb dX10_undo_26 rfl (lv_at hl 0 rfl) ?_
    refine lv_iconst (v := 0) hx hb dX10_undo_27 (by decide) ?_
    obtain ⟨q28, c28, hf⟩ := br_b hf
    refine x_callV (k := 45) (As := [.int v21, .int (0 : Int32)]) (rest := []) (st1 := [.int q28]) X hR (ctX5_get c28) ml_X10_308 im_X5_get se_X5_get in_X5 co_X5_get yo_X5_get rfl kX5 (z_45 b) (rm_ok (by decide) (by decide)) rfl hl.1 rfl rfl (Nat.le_of_ble_eq_true rfl) dX10_undo_28 ⟨Nat.zero_le _, Nat.zero_le _⟩ (fun H locs hR => ?_)
    refine lv_istore_n (lv' := [(2, .int q28), (1, .int v21), (0, .ref (eB E + 0))]) hx hb dX10_undo_31 rfl hl (by decide) rfl (fun ls hl => ?_)
    refine lv_aload_n hx hb dX10_undo_32 rfl (lv_at hl 2 rfl) ?_
    refine x_get hx hb hown hts hK hR kX10 (z_0 b) (j := 0) (by decide) fl_X10_12 (v := .ref (eB E + 1)) rfl dX10_undo_33 ?_
    refine lv_iload_n hx hb dX10_undo_36 rfl (lv_at hl 0 rfl) ?_
    refine lv_aload_n hx hb dX10_undo_37 rfl (lv_at hl 2 rfl) ?_
    refine x_get hx hb hown hts hK hR kX10 (z_0 b) (j := 9) (by decide) fl_X10_76 (v := .ref (eB E + 45)) rfl dX10_undo_38 ?_
    refine lv_iload_n hx hb dX10_undo_41 rfl (lv_at hl 1 rfl) ?_
    refine lv_iconst (v := 1) hx hb dX10_undo_42 (by decide) ?_
    obtain ⟨q43, c43, hf⟩ := br_b hf
    refine x_callV (k := 45) (As := [.int v21, .int (1 : Int32)]) (rest := [.int q28, .ref (eB E + 1)]) (st1 := [.int q43, .int q28, .ref (eB E + 1)]) X hR (ctX5_get c43) ml_X10_308 im_X5_get se_X5_get in_X5 co_X5_get yo_X5_get rfl kX5 (z_45 b) (rm_ok (by decide) (by decide)) rfl hl.1 rfl rfl (Nat.le_of_ble_eq_true rfl) dX10_undo_43 ⟨Nat.zero_le _, Nat.zero_le _⟩ (fun H locs hR => ?_)
    refine lv_aload_n hx hb dX10_undo_46 rfl (lv_at hl 2 rfl) ?_
    refine x_get hx hb hown hts hK hR kX10 (z_0 b) (j := 9) (by decide) fl_X10_76 (v := .ref (eB E + 45)) rfl dX10_undo_47 ?_
    refine lv_iload_n hx hb dX10_undo_50 rfl (lv_at hl 1 rfl) ?_
    refine lv_iconst (v := 2) hx hb dX10_undo_51 (by decide) ?_
    obtain ⟨q52, c52, hf⟩ := br_b hf
    refine x_callV (k := 45) (As := [.int v21, .int (2 : Int32)]) (rest := [.int q43, .int q28, .ref (eB E + 1)]) (st1 := [.int q52, .int q43, .int q28, .ref (eB E + 1)]) X hR (ctX5_get c52) ml_X10_308 im_X5_get se_X5_get in_X5 co_X5_get yo_X5_get rfl kX5 (z_45 b) (rm_ok (by decide) (by decide)) rfl hl.1 rfl rfl (Nat.le_of_ble_eq_true rfl) dX10_undo_52 ⟨Nat.zero_le _, Nat.zero_le _⟩ (fun H locs hR => ?_)
    obtain ⟨q55, c55, hf⟩ := br_b hf
    refine x_callV (k := 1) (As := [.int q28, .int q43, .int q52]) (rest := []) (st1 := []) X hR (ctX8_put_t c55) ml_X10_300 im_X8_put se_X8_put in_X8 co_X8_put yo_X8_put rfl kX8 (z_1 b) (rm_ok (by decide) (by decide)) rfl hl.1 rfl rfl (Nat.le_of_ble_eq_true rfl) dX10_undo_55 ⟨Nat.zero_le _, Nat.zero_le _⟩ (fun H locs hR => ?_)
    refine lv_aload_n hx hb dX10_undo_58 rfl (lv_at hl 2 rfl) ?_
    refine x_get hx hb hown hts hK hR kX10 (z_0 b) (j := 9) (by decide) fl_X10_76 (v := .ref (eB E + 45)) rfl dX10_undo_59 ?_
    refine lv_iload_n hx hb dX10_undo_62 rfl (lv_at hl 1 rfl) ?_
    refine x_puti hx hb hown hts hK hR kX5 (z_45 b) (j := 1) (by decide) fl_X10_98 rfl rfl rfl rfl dX10_undo_63 (fun H locs hR => ?_)
    obtain ⟨M63, e63⟩ : ∃ y : Mem, y = (sI q55 45 1 v21) := ⟨_, rfl⟩
    have hf := nx_at e63 hf
    have hR : Rl E (sh_ b) (nn b) s.heap M63 H locs := by rw [e63]; exact hR
    refine lv_iload_n hx hb dX10_undo_66 rfl (lv_at hl 0 rfl) ?_
    cases hf
    exact x_iret hx hb hr hlk hR dX10_undo_67
  · have hf := (br_if hf).1 q7
    refine lv_iconst (v := -1) hx hb dX10_undo_10 (by decide) ?_
    cases hf
    exact x_iret hx hb hr hlk hR dX10_undo_11
theorem ctX10_undo {l : Launch} {E : Ge} {b : Bool} {M : Mem} {r : Int32} {M1 : Mem} (h : fX10_undo M = some (r, M1)) : CT l E yX10_undo cX10_undo 3 (some .int) 3 0 0 [.ref (eB E + 0)] (some (.int r)) (sh_ b) (nn b) M (sh_ b) (nn b) M1 := by
  refine met_of (by decide) (Nat.le_of_ble_eq_true rfl) ?_
  intro p e s m args below meth c X _ hR ls hl
  exact wX10_undo_0 X h hR hl
def fX10_voter (M : Mem) (x1 : Int32) (x2 : Int32) : Option Int32 := (fX8_hasVoter_t M x1).bind (fun q5 => (if q5 = 0 then some (-1 : Int32) else (if x2 = (0 : Int32) then (if inb x1 15 = true then some (M.1 2 (ix x1)) else none) else (if x2 = (1 : Int32) then (if inb x1 15 = true then some (M.1 3 (ix x1)) else none) else (if x2 = (2 : Int32) then (if inb x1 15 = true then some (M.1 4 (ix x1)) else none) else (if x2 = (3 : Int32) then (if inb x1 15 = true then some (M.1 5 (ix x1)) else none) else (if x2 = (4 : Int32) then (if inb x1 15 = true then some (M.1 6 (ix x1)) else none) else (if x2 = (5 : Int32) then (if inb x1 15 = true then some (M.1 7 (ix x1)) else none) else some (-1 : Int32)))))))))
set_option maxHeartbeats 4000000 in
set_option maxRecDepth 100000 in
theorem wX10_voter_0 {r : Int32} {M : Mem} (X : CX E p s m args c meth cX10_voter 3 (some .int) RX10) : ∀ {x1 : Int32} {x2 : Int32} {H : Heap} {locs : List Loc} {ls : Array Slot}, fX10_voter M x1 x2 = some r → Rl E (sh_ b) (nn b) s.heap M H locs → lv_has ls 3 [(0, .ref (eB E + 0)), (1, .int x1), (2, .int x2)] → W p l e (rm 2 0 0) s m args below meth c H locs 0 0 (MQ below (qq E (some (.int r)) (sh_ b) (nn b) M) args s 0 0 (fr E)) (F0 m 0 ls []) := by
  obtain ⟨hx, hb, hr, hml, hown, hts, hK, hN, hO, hlk, hbs⟩ := id X
  intro x1 x2 H locs ls hf hR hl
  unfold fX10_voter at hf
  refine lv_aload_n hx hb dX10_voter_0 rfl (lv_at hl 0 rfl) ?_
  refine x_get hx hb hown hts hK hR kX10 (z_0 b) (j := 0) (by decide) fl_X10_12 (v := .ref (eB E + 1)) rfl dX10_voter_1 ?_
  refine lv_iload_n hx hb dX10_voter_4 rfl (lv_at hl 1 rfl) ?_
  obtain ⟨q5, c5, hf⟩ := br_b hf
  refine x_callV (k := 1) (As := [.int x1]) (rest := []) (st1 := [.int q5]) X hR (ctX8_hasVoter_t c5) ml_X10_104 im_X8_hasVoter se_X8_hasVoter in_X8 co_X8_hasVoter yo_X8_hasVoter rfl kX8 (z_1 b) (rm_ok (by decide) (by decide)) rfl hl.1 rfl rfl (Nat.le_of_ble_eq_true rfl) dX10_voter_5 ⟨Nat.zero_le _, Nat.zero_le _⟩ (fun H locs hR => ?_)
  refine lv_if_ne (tgt := 13) hx hb dX10_voter_8 (by decide) (fun q8 => ?_) (fun q8 => ?_)
  · have hf := (br_if hf).2 q8
    refine lv_iload_n hx hb dX10_voter_13 rfl (lv_at hl 2 rfl) ?_
    by_cases q14_0 : x2 = (0 : Int32)
    · have hf := (br_if hf).1 q14_0
      refine x_tsw (v := 0) (tgt := 52) hx hb dX10_voter_14 q14_0 (by decide) (by decide) (off := 38) (by decide) (by decide) ?_
      refine lv_aload_n hx hb dX10_voter_52 rfl (lv_at hl 0 rfl) ?_
      refine x_get hx hb hown hts hK hR kX10 (z_0 b) (j := 0) (by decide) fl_X10_12 (v := .ref (eB E + 1)) rfl dX10_voter_53 ?_
      refine x_get hx hb hown hts hK hR kX8 (z_1 b) (j := 1) (by decide) fl_X10_108 (v := .ref (eB E + 2)) rfl dX10_voter_56 ?_
      refine lv_iload_n hx hb dX10_voter_59 rfl (lv_at hl 1 rfl) ?_
      obtain ⟨g60, hf⟩ := br_g hf
      refine x_iald hx hb hK hR (z_2 b) g60 dX10_voter_60 ?_
      cases hf
      exact x_iret hx hb hr hlk hR dX10_voter_61
    · have hf := (br_if hf).2 q14_0
      by_cases q14_1 : x2 = (1 : Int32)
      · have hf := (br_if hf).1 q14_1
        refine x_tsw (v := 1) (tgt := 62) hx hb dX10_voter_14 q14_1 (by decide) (by decide) (off := 48) (by decide) (by decide) ?_
        refine lv_aload_n hx hb dX10_voter_62 rfl (lv_at hl 0 rfl) ?_
        refine x_get hx hb hown hts hK hR kX10 (z_0 b) (j := 0) (by decide) fl_X10_12 (v := .ref (eB E + 1)) rfl dX10_voter_63 ?_
        refine x_get hx hb hown hts hK hR kX8 (z_1 b) (j := 2) (by decide) fl_X10_112 (v := .ref (eB E + 3)) rfl dX10_voter_66 ?_
        refine lv_iload_n hx hb dX10_voter_69 rfl (lv_at hl 1 rfl) ?_
        obtain ⟨g70, hf⟩ := br_g hf
        refine x_iald hx hb hK hR (z_3 b) g70 dX10_voter_70 ?_
        cases hf
        exact x_iret hx hb hr hlk hR dX10_voter_71
      · have hf := (br_if hf).2 q14_1
        by_cases q14_2 : x2 = (2 : Int32)
        · have hf := (br_if hf).1 q14_2
          refine x_tsw (v := 2) (tgt := 72) hx hb dX10_voter_14 q14_2 (by decide) (by decide) (off := 58) (by decide) (by decide) ?_
          refine lv_aload_n hx hb dX10_voter_72 rfl (lv_at hl 0 rfl) ?_
          refine x_get hx hb hown hts hK hR kX10 (z_0 b) (j := 0) (by decide) fl_X10_12 (v := .ref (eB E + 1)) rfl dX10_voter_73 ?_
          refine x_get hx hb hown hts hK hR kX8 (z_1 b) (j := 3) (by decide) fl_X10_115 (v := .ref (eB E + 4)) rfl dX10_voter_76 ?_
          refine lv_iload_n hx hb dX10_voter_79 rfl (lv_at hl 1 rfl) ?_
          obtain ⟨g80, hf⟩ := br_g hf
          refine x_iald hx hb hK hR (z_4 b) g80 dX10_voter_80 ?_
          cases hf
          exact x_iret hx hb hr hlk hR dX10_voter_81
        · have hf := (br_if hf).2 q14_2
          by_cases q14_3 : x2 = (3 : Int32)
          · have hf := (br_if hf).1 q14_3
            refine x_tsw (v := 3) (tgt := 82) hx hb dX10_voter_14 q14_3 (by decide) (by decide) (off := 68) (by decide) (by decide) ?_
            refine lv_aload_n hx hb dX10_voter_82 rfl (lv_at hl 0 rfl) ?_
            refine x_get hx hb hown hts hK hR kX10 (z_0 b) (j := 0) (by decide) fl_X10_12 (v := .ref (eB E + 1)) rfl dX10_voter_83 ?_
            refine x_get hx hb hown hts hK hR kX8 (z_1 b) (j := 4) (by decide) fl_X10_118 (v := .ref (eB E + 5)) rfl dX10_voter_86 ?_
            refine lv_iload_n hx hb dX10_voter_89 rfl (lv_at hl 1 rfl) ?_
            obtain ⟨g90, hf⟩ := br_g hf
            refine x_iald hx hb hK hR (z_5 b) g90 dX10_voter_90 ?_
            cases hf
            exact x_iret hx hb hr hlk hR dX10_voter_91
          · have hf := (br_if hf).2 q14_3
            by_cases q14_4 : x2 = (4 : Int32)
            · have hf := (br_if hf).1 q14_4
              refine x_tsw (v := 4) (tgt := 92) hx hb dX10_voter_14 q14_4 (by decide) (by decide) (off := 78) (by decide) (by decide) ?_
              refine lv_aload_n hx hb dX10_voter_92 rfl (lv_at hl 0 rfl) ?_
              refine x_get hx hb hown hts hK hR kX10 (z_0 b) (j := 0) (by decide) fl_X10_12 (v := .ref (eB E + 1)) rfl dX10_voter_93 ?_
              refine x_get hx hb hown hts hK hR kX8 (z_1 b) (j := 5) (by decide) fl_X10_121 (v := .ref (eB E + 6)) rfl dX10_voter_96 ?_
              refine lv_iload_n hx hb dX10_voter_99 rfl (lv_at hl 1 rfl) ?_
              obtain ⟨g100, hf⟩ := br_g hf
              refine x_iald hx hb hK hR (z_6 b) g100 dX10_voter_100 ?_
              cases hf
              exact x_iret hx hb hr hlk hR dX10_voter_101
            · have hf := (br_if hf).2 q14_4
              by_cases q14_5 : x2 = (5 : Int32)
              · have hf := (br_if hf).1 q14_5
                refine x_tsw (v := 5) (tgt := 102) hx hb dX10_voter_14 q14_5 (by decide) (by decide) (off := 88) (by decide) (by decide) ?_
                refine lv_aload_n hx hb dX10_voter_102 rfl (lv_at hl 0 rfl) ?_
                refine x_get hx hb hown hts hK hR kX10 (z_0 b) (j := 0) (by decide) fl_X10_12 (v := .ref (eB E + 1)) rfl dX10_voter_103 ?_
                refine x_get hx hb hown hts hK hR kX8 (z_1 b) (j := 6) (by decide) fl_X10_124 (v := .ref (eB E + 7)) rfl dX10_voter_106 ?_
                refine lv_iload_n hx hb dX10_voter_109 rfl (lv_at hl 1 rfl) ?_
                obtain ⟨g110, hf⟩ := br_g hf
                refine x_iald hx hb hK hR (z_7 b) g110 dX10_voter_110 ?_
                cases hf
                exact x_iret hx hb hr hlk hR dX10_voter_111
              · have hf := (br_if hf).2 q14_5
                refine lv_tableOut (tgt := 112) hx hb dX10_voter_14 (by have a0 := lv_neT q14_0 (show (0 : Int32).toInt = 0 from rfl); have a1 := lv_neT q14_1 (show (1 : Int32).toInt = 1 from rfl); have a2 := lv_neT q14_2 (show (2 : Int32).toInt = 2 from rfl); have a3 := lv_neT q14_3 (show (3 : Int32).toInt = 3 from rfl); have a4 := lv_neT q14_4 (show (4 : Int32).toInt = 4 from rfl); have a5 := lv_neT q14_5 (show (5 : Int32).toInt = 5 from rfl); omega) (by decide) ?_
                refine lv_iconst (v := -1) hx hb dX10_voter_112 (by decide) ?_
                cases hf
                exact x_iret hx hb hr hlk hR dX10_voter_113
  · have hf := (br_if hf).1 q8
    refine lv_iconst (v := -1) hx hb dX10_voter_11 (by decide) ?_
    cases hf
    exact x_iret hx hb hr hlk hR dX10_voter_12
theorem ctX10_voter {l : Launch} {E : Ge} {b : Bool} {M : Mem} {x1 : Int32} {x2 : Int32} {r : Int32} (h : fX10_voter M x1 x2 = some r) : CT l E yX10_voter cX10_voter 3 (some .int) 2 0 0 [.ref (eB E + 0), .int x1, .int x2] (some (.int r)) (sh_ b) (nn b) M (sh_ b) (nn b) M := by
  refine met_of (by decide) (Nat.le_of_ble_eq_true rfl) ?_
  intro p e s m args below meth c X _ hR ls hl
  exact wX10_voter_0 X h hR hl
def fX10_votes_22 (M : Mem) : Option (Int32 × Mem) := some ((-1 : Int32), M)
def fX10_votes (x1 : Int32) (x2 : Int32) (M : Mem) : Option (Int32 × Mem) := (fX8_hasPlace_t M x1).bind (fun q5 => (if q5 = 0 then fX10_votes_22 M else (fX8_hasPlace_t M x2).bind (fun q16 => (if q16 = 0 then fX10_votes_22 M else (fX0_refresh M).bind (fun q28 => (fX0_forOf q28 x1 x2).bind (fun q37 => some (q37, q28)))))))
set_option maxHeartbeats 4000000 in
set_option maxRecDepth 100000 in
theorem wX10_votes_22 {r : Int32} {M1 : Mem} (X : CX E p s m args c meth cX10_votes 3 (some .int) RX10) : ∀ {M : Mem} {H : Heap} {locs : List Loc} {ls : Array Slot}, fX10_votes_22 M = some (r, M1) → Rl E (sh_ b) (nn b) s.heap M H locs → lv_has ls 3 [] → W p l e (rm 6 0 0) s m args below meth c H locs 0 0 (MQ below (qq E (some (.int r)) (sh_ b) (nn b) M1) args s 0 0 (fr E)) (F0 m 22 ls []) := by
  obtain ⟨hx, hb, hr, hml, hown, hts, hK, hN, hO, hlk, hbs⟩ := id X
  intro M H locs ls hf hR hl
  unfold fX10_votes_22 at hf
  refine lv_iconst (v := -1) hx hb dX10_votes_22 (by decide) ?_
  cases hf
  exact x_iret hx hb hr hlk hR dX10_votes_23
set_option maxHeartbeats 4000000 in
set_option maxRecDepth 100000 in
theorem wX10_votes_0 {r : Int32} {M1 : Mem} (X : CX E p s m args c meth cX10_votes 3 (some .int) RX10) : ∀ {x1 : Int32} {x2 : Int32} {M : Mem} {H : Heap} {locs : List Loc} {ls : Array Slot}, fX10_votes x1 x2 M = some (r, M1) → Rl E (sh_ b) (nn b) s.heap M H locs → lv_has ls 3 [(0, .ref (eB E + 0)), (1, .int x1), (2, .int x2)] → W p l e (rm 6 0 0) s m args below meth c H locs 0 0 (MQ below (qq E (some (.int r)) (sh_ b) (nn b) M1) args s 0 0 (fr E)) (F0 m 0 ls []) := by
  obtain ⟨hx, hb, hr, hml, hown, hts, hK, hN, hO, hlk, hbs⟩ := id X
  intro x1 x2 M H locs ls hf hR hl
  unfold fX10_votes at hf
  refine lv_aload_n hx hb dX10_votes_0 rfl (lv_at hl 0 rfl) ?_
  refine x_get hx hb hown hts hK hR kX10 (z_0 b) (j := 0) (by decide) fl_X10_12 (v := .ref (eB E + 1)) rfl dX10_votes_1 ?_
  refine lv_iload_n hx hb dX10_votes_4 rfl (lv_at hl 1 rfl) ?_
  obtain ⟨q5, c5, hf⟩ := br_b hf
  refine x_callV (k := 1) (As := [.int x1]) (rest := []) (st1 := [.int q5]) X hR (ctX8_hasPlace_t c5) ml_X10_127 im_X8_hasPlace se_X8_hasPlace in_X8 co_X8_hasPlace yo_X8_hasPlace rfl kX8 (z_1 b) (rm_ok (by decide) (by decide)) rfl hl.1 rfl rfl (Nat.le_of_ble_eq_true rfl) dX10_votes_5 ⟨Nat.zero_le _, Nat.zero_le _⟩ (fun H locs hR => ?_)
  refine lv_if_eq (tgt := 22) hx hb dX10_votes_8 (by decide) (fun q8 => ?_) (fun q8 => ?_)
  · have hf := (br_if hf).1 q8
    exact wX10_votes_22 X hf hR (lv_sub hl [] rfl)
  · have hf := (br_if hf).2 q8
    refine lv_aload_n hx hb dX10_votes_11 rfl (lv_at hl 0 rfl) ?_
    refine x_get hx hb hown hts hK hR kX10 (z_0 b) (j := 0) (by decide) fl_X10_12 (v := .ref (eB E + 1)) rfl dX10_votes_12 ?_
    refine lv_iload_n hx hb dX10_votes_15 rfl (lv_at hl 2 rfl) ?_
    obtain ⟨q16, c16, hf⟩ := br_b hf
    refine x_callV (k := 1) (As := [.int x2]) (rest := []) (st1 := [.int q16]) X hR (ctX8_hasPlace_t c16) ml_X10_127 im_X8_hasPlace se_X8_hasPlace in_X8 co_X8_hasPlace yo_X8_hasPlace rfl kX8 (z_1 b) (rm_ok (by decide) (by decide)) rfl hl.1 rfl rfl (Nat.le_of_ble_eq_true rfl) dX10_votes_16 ⟨Nat.zero_le _, Nat.zero_le _⟩ (fun H locs hR => ?_)
    refine lv_if_ne (tgt := 24) hx hb dX10_votes_19 (by decide) (fun q19 => ?_) (fun q19 => ?_)
    · have hf := (br_if hf).2 q19
      refine lv_aload_n hx hb dX10_votes_24 rfl (lv_at hl 0 rfl) ?_
      refine x_get hx hb hown hts hK hR kX10 (z_0 b) (j := 2) (by decide) fl_X10_28 (v := .ref (eB E + 21)) rfl dX10_votes_25 ?_
      obtain ⟨q28, c28, hf⟩ := br_b hf
      refine x_callV (k := 21) (As := []) (rest := []) (st1 := []) X hR (ctX0_refresh c28) ml_X10_151 im_X0_refresh se_X0_refresh in_X0 co_X0_refresh yo_X0_refresh rfl kX0 (z_21 b) (rm_ok (by decide) (by decide)) rfl hl.1 rfl rfl (Nat.le_of_ble_eq_true rfl) dX10_votes_28 ⟨Nat.zero_le _, Nat.zero_le _⟩ (fun H locs hR => ?_)
      refine lv_aload_n hx hb dX10_votes_31 rfl (lv_at hl 0 rfl) ?_
      refine x_get hx hb hown hts hK hR kX10 (z_0 b) (j := 2) (by decide) fl_X10_28 (v := .ref (eB E + 21)) rfl dX10_votes_32 ?_
      refine lv_iload_n hx hb dX10_votes_35 rfl (lv_at hl 1 rfl) ?_
      refine lv_iload_n hx hb dX10_votes_36 rfl (lv_at hl 2 rfl) ?_
      obtain ⟨q37, c37, hf⟩ := br_b hf
      refine x_callV (k := 21) (As := [.int x1, .int x2]) (rest := []) (st1 := [.int q37]) X hR (ctX0_forOf c37) ml_X10_154 im_X0_forOf se_X0_forOf in_X0 co_X0_forOf yo_X0_forOf rfl kX0 (z_21 b) (rm_ok (by decide) (by decide)) rfl hl.1 rfl rfl (Nat.le_of_ble_eq_true rfl) dX10_votes_37 ⟨Nat.zero_le _, Nat.zero_le _⟩ (fun H locs hR => ?_)
      cases hf
      exact x_iret hx hb hr hlk hR dX10_votes_40
    · have hf := (br_if hf).1 q19
      exact wX10_votes_22 X hf hR (lv_sub hl [] rfl)
theorem ctX10_votes {l : Launch} {E : Ge} {b : Bool} {M : Mem} {x1 : Int32} {x2 : Int32} {r : Int32} {M1 : Mem} (h : fX10_votes x1 x2 M = some (r, M1)) : CT l E yX10_votes cX10_votes 3 (some .int) 6 0 0 [.ref (eB E + 0), .int x1, .int x2] (some (.int r)) (sh_ b) (nn b) M (sh_ b) (nn b) M1 := by
  refine met_of (by decide) (Nat.le_of_ble_eq_true rfl) ?_
  intro p e s m args below meth c X _ hR ls hl
  exact wX10_votes_0 X h hR hl
def fX10_way_19 (M : Mem) : Option Int32 := some (-1 : Int32)
def fX10_way (M : Mem) (x1 : Int32) (x2 : Int32) (x3 : Int32) : Option Int32 := (fX8_hasVoter_t M x1).bind (fun q5 => (if q5 = 0 then fX10_way_19 M else (fX10_isPoint M x2 x3).bind (fun q13 => (if q13 = 0 then fX10_way_19 M else (fX8_wayTo_t M x1 x2 x3).bind (fun q28 => some q28)))))
set_option maxHeartbeats 4000000 in
set_option maxRecDepth 100000 in
theorem wX10_way_19 {r : Int32} {M : Mem} (X : CX E p s m args c meth cX10_way 4 (some .int) RX10) : ∀ {H : Heap} {locs : List Loc} {ls : Array Slot}, fX10_way_19 M = some r → Rl E (sh_ b) (nn b) s.heap M H locs → lv_has ls 4 [] → W p l e (rm 4 0 0) s m args below meth c H locs 0 0 (MQ below (qq E (some (.int r)) (sh_ b) (nn b) M) args s 0 0 (fr E)) (F0 m 19 ls []) := by
  obtain ⟨hx, hb, hr, hml, hown, hts, hK, hN, hO, hlk, hbs⟩ := id X
  intro H locs ls hf hR hl
  unfold fX10_way_19 at hf
  refine lv_iconst (v := -1) hx hb dX10_way_19 (by decide) ?_
  cases hf
  exact x_iret hx hb hr hlk hR dX10_way_20
set_option maxHeartbeats 4000000 in
set_option maxRecDepth 100000 in
theorem wX10_way_0 {r : Int32} {M : Mem} (X : CX E p s m args c meth cX10_way 4 (some .int) RX10) : ∀ {x1 : Int32} {x2 : Int32} {x3 : Int32} {H : Heap} {locs : List Loc} {ls : Array Slot}, fX10_way M x1 x2 x3 = some r → Rl E (sh_ b) (nn b) s.heap M H locs → lv_has ls 4 [(0, .ref (eB E + 0)), (1, .int x1), (2, .int x2), (3, .int x3)] → W p l e (rm 4 0 0) s m args below meth c H locs 0 0 (MQ below (qq E (some (.int r)) (sh_ b) (nn b) M) args s 0 0 (fr E)) (F0 m 0 ls []) := by
  obtain ⟨hx, hb, hr, hml, hown, hts, hK, hN, hO, hlk, hbs⟩ := id X
  intro x1 x2 x3 H locs ls hf hR hl
  unfold fX10_way at hf
  refine lv_aload_n hx hb dX10_way_0 rfl (lv_at hl 0 rfl) ?_
  refine x_get hx hb hown hts hK hR kX10 (z_0 b) (j := 0) (by decide) fl_X10_12 (v := .ref (eB E + 1)) rfl dX10_way_1 ?_
  refine lv_iload_n hx hb dX10_way_4 rfl (lv_at hl 1 rfl) ?_
  obtain ⟨q5, c5, hf⟩ := br_b hf
  refine x_callV (k := 1) (As := [.int x1]) (rest := []) (st1 := [.int q5]) X hR (ctX8_hasVoter_t c5) ml_X10_104 im_X8_hasVoter se_X8_hasVoter in_X8 co_X8_hasVoter yo_X8_hasVoter rfl kX8 (z_1 b) (rm_ok (by decide) (by decide)) rfl hl.1 rfl rfl (Nat.le_of_ble_eq_true rfl) dX10_way_5 ⟨Nat.zero_le _, Nat.zero_le _⟩ (fun H locs hR => ?_)
  refine lv_if_eq (tgt := 19) hx hb dX10_way_8 (by decide) (fun q8 => ?_) (fun q8 => ?_)
  · have hf := (br_if hf).1 q8
    exact wX10_way_19 X hf hR (lv_sub hl [] rfl)
  · have hf := (br_if hf).2 q8
    refine lv_iload_n hx hb dX10_way_11 rfl (lv_at hl 2 rfl) ?_
    refine lv_iload_n hx hb dX10_way_12 rfl (lv_at hl 3 rfl) ?_
    obtain ⟨q13, c13, hf⟩ := br_b hf
    refine x_callS (As := [.int x2, .int x3]) (rest := []) (st1 := [.int q13]) X hR (ctX10_isPoint c13) ml_X10_136 st_X10_isPoint in_X10 co_X10_isPoint yo_X10_isPoint (rm_ok (by decide) (by decide)) rfl hl.1 rfl rfl (Nat.le_of_ble_eq_true rfl) dX10_way_13 ⟨Nat.zero_le _, Nat.zero_le _⟩ (fun H locs hR => ?_)
    refine lv_if_ne (tgt := 21) hx hb dX10_way_16 (by decide) (fun q16 => ?_) (fun q16 => ?_)
    · have hf := (br_if hf).2 q16
      refine lv_aload_n hx hb dX10_way_21 rfl (lv_at hl 0 rfl) ?_
      refine x_get hx hb hown hts hK hR kX10 (z_0 b) (j := 0) (by decide) fl_X10_12 (v := .ref (eB E + 1)) rfl dX10_way_22 ?_
      refine lv_iload_n hx hb dX10_way_25 rfl (lv_at hl 1 rfl) ?_
      refine lv_iload_n hx hb dX10_way_26 rfl (lv_at hl 2 rfl) ?_
      refine lv_iload_n hx hb dX10_way_27 rfl (lv_at hl 3 rfl) ?_
      obtain ⟨q28, c28, hf⟩ := br_b hf
      refine x_callV (k := 1) (As := [.int x1, .int x2, .int x3]) (rest := []) (st1 := [.int q28]) X hR (ctX8_wayTo_t c28) ml_X10_147 im_X8_wayTo se_X8_wayTo in_X8 co_X8_wayTo yo_X8_wayTo rfl kX8 (z_1 b) (rm_ok (by decide) (by decide)) rfl hl.1 rfl rfl (Nat.le_of_ble_eq_true rfl) dX10_way_28 ⟨Nat.zero_le _, Nat.zero_le _⟩ (fun H locs hR => ?_)
      cases hf
      exact x_iret hx hb hr hlk hR dX10_way_31
    · have hf := (br_if hf).1 q16
      exact wX10_way_19 X hf hR (lv_sub hl [] rfl)
theorem ctX10_way {l : Launch} {E : Ge} {b : Bool} {M : Mem} {x1 : Int32} {x2 : Int32} {x3 : Int32} {r : Int32} (h : fX10_way M x1 x2 x3 = some r) : CT l E yX10_way cX10_way 4 (some .int) 4 0 0 [.ref (eB E + 0), .int x1, .int x2, .int x3] (some (.int r)) (sh_ b) (nn b) M (sh_ b) (nn b) M := by
  refine met_of (by decide) (Nat.le_of_ble_eq_true rfl) ?_
  intro p e s m args below meth c X _ hR ls hl
  exact wX10_way_0 X h hR hl
def fX10_wins_32 (M : Mem) : Option Int32 := some (0 : Int32)
def fX10_wins (M : Mem) (x1 : Int32) (x2 : Int32) : Option Int32 := (if (M.1 1 0) = 0 then fX10_wins_32 M else (if x1 < 0 then fX10_wins_32 M else (if (10000 : Int32) ≤ x1 then fX10_wins_32 M else (if x2 < 0 then fX10_wins_32 M else (if x2 < (10000 : Int32) then (fX8_weightFor_t M x1 x2).bind (fun q40 => (fX8_weightFor_t M x2 x1).bind (fun q50 => (fX8_isEnough_t M q40 q50).bind (fun q62 => some (q62 &&& 1)))) else fX10_wins_32 M)))))
set_option maxHeartbeats 4000000 in
set_option maxRecDepth 100000 in
theorem wX10_wins_32 {r : Int32} {M : Mem} (X : CX E p s m args c meth cX10_wins 5 (some .boolean) RX10) : ∀ {H : Heap} {locs : List Loc} {ls : Array Slot}, fX10_wins_32 M = some r → Rl E (sh_ b) (nn b) s.heap M H locs → lv_has ls 5 [] → W p l e (rm 5 0 0) s m args below meth c H locs 0 0 (MQ below (qq E (some (.int r)) (sh_ b) (nn b) M) args s 0 0 (fr E)) (F0 m 32 ls []) := by
  obtain ⟨hx, hb, hr, hml, hown, hts, hK, hN, hO, hlk, hbs⟩ := id X
  intro H locs ls hf hR hl
  unfold fX10_wins_32 at hf
  refine lv_iconst (v := 0) hx hb dX10_wins_32 (by decide) ?_
  cases hf
  exact x_zret hx hb hr hlk hR (by decide) dX10_wins_33
set_option maxHeartbeats 4000000 in
set_option maxRecDepth 100000 in
theorem wX10_wins_0 {r : Int32} {M : Mem} (X : CX E p s m args c meth cX10_wins 5 (some .boolean) RX10) : ∀ {x1 : Int32} {x2 : Int32} {H : Heap} {locs : List Loc} {ls : Array Slot}, fX10_wins M x1 x2 = some r → Rl E (sh_ b) (nn b) s.heap M H locs → lv_has ls 5 [(0, .ref (eB E + 0)), (1, .int x1), (2, .int x2)] → W p l e (rm 5 0 0) s m args below meth c H locs 0 0 (MQ below (qq E (some (.int r)) (sh_ b) (nn b) M) args s 0 0 (fr E)) (F0 m 0 ls []) := by
  obtain ⟨hx, hb, hr, hml, hown, hts, hK, hN, hO, hlk, hbs⟩ := id X
  intro x1 x2 H locs ls hf hR hl
  unfold fX10_wins at hf
  refine lv_aload_n hx hb dX10_wins_0 rfl (lv_at hl 0 rfl) ?_
  refine x_get hx hb hown hts hK hR kX10 (z_0 b) (j := 0) (by decide) fl_X10_12 (v := .ref (eB E + 1)) rfl dX10_wins_1 ?_
  refine x_get hx hb hown hts hK hR kX8 (z_1 b) (j := 0) (by decide) fl_X10_101 (v := .int (M.1 1 0)) rfl dX10_wins_4 ?_
  refine lv_if_eq (tgt := 32) hx hb dX10_wins_7 (by decide) (fun q7 => ?_) (fun q7 => ?_)
  · have hf := (br_if hf).1 q7
    exact wX10_wins_32 X hf hR (lv_sub hl [] rfl)
  · have hf := (br_if hf).2 q7
    refine lv_iload_n hx hb dX10_wins_10 rfl (lv_at hl 1 rfl) ?_
    refine lv_if_lt (tgt := 32) hx hb dX10_wins_11 (by decide) (fun q11 => ?_) (fun q11 => ?_)
    · have hf := (br_if hf).1 q11
      exact wX10_wins_32 X hf hR (lv_sub hl [] rfl)
    · have hf := (br_if hf).2 q11
      refine lv_iload_n hx hb dX10_wins_14 rfl (lv_at hl 1 rfl) ?_
      refine lv_sipush (v := 10000) hx hb dX10_wins_15 (by decide) ?_
      refine lv_icmp_ge (tgt := 32) hx hb dX10_wins_18 (by decide) (fun q18 => ?_) (fun q18 => ?_)
      · have hf := (br_if hf).1 q18
        exact wX10_wins_32 X hf hR (lv_sub hl [] rfl)
      · have hf := (br_if hf).2 q18
        refine lv_iload_n hx hb dX10_wins_21 rfl (lv_at hl 2 rfl) ?_
        refine lv_if_lt (tgt := 32) hx hb dX10_wins_22 (by decide) (fun q22 => ?_) (fun q22 => ?_)
        · have hf := (br_if hf).1 q22
          exact wX10_wins_32 X hf hR (lv_sub hl [] rfl)
        · have hf := (br_if hf).2 q22
          refine lv_iload_n hx hb dX10_wins_25 rfl (lv_at hl 2 rfl) ?_
          refine lv_sipush (v := 10000) hx hb dX10_wins_26 (by decide) ?_
          refine lv_icmp_lt (tgt := 34) hx hb dX10_wins_29 (by decide) (fun q29 => ?_) (fun q29 => ?_)
          · have hf := (br_if hf).1 q29
            refine lv_aload_n hx hb dX10_wins_34 rfl (lv_at hl 0 rfl) ?_
            refine x_get hx hb hown hts hK hR kX10 (z_0 b) (j := 0) (by decide) fl_X10_12 (v := .ref (eB E + 1)) rfl dX10_wins_35 ?_
            refine lv_iload_n hx hb dX10_wins_38 rfl (lv_at hl 1 rfl) ?_
            refine lv_iload_n hx hb dX10_wins_39 rfl (lv_at hl 2 rfl) ?_
            obtain ⟨q40, c40, hf⟩ := br_b hf
            refine x_callV (k := 1) (As := [.int x1, .int x2]) (rest := []) (st1 := [.int q40]) X hR (ctX8_weightFor_t c40) ml_X10_161 im_X8_weightFor se_X8_weightFor in_X8 co_X8_weightFor yo_X8_weightFor rfl kX8 (z_1 b) (rm_ok (by decide) (by decide)) rfl hl.1 rfl rfl (Nat.le_of_ble_eq_true rfl) dX10_wins_40 ⟨Nat.zero_le _, Nat.zero_le _⟩ (fun H locs hR => ?_)
            refine lv_istore_n (lv' := [(3, .int q40), (0, .ref (eB E + 0)), (1, .int x1), (2, .int x2)]) hx hb dX10_wins_43 rfl hl (by decide) rfl (fun ls hl => ?_)
            refine lv_aload_n hx hb dX10_wins_44 rfl (lv_at hl 1 rfl) ?_
            refine x_get hx hb hown hts hK hR kX10 (z_0 b) (j := 0) (by decide) fl_X10_12 (v := .ref (eB E + 1)) rfl dX10_wins_45 ?_
            refine lv_iload_n hx hb dX10_wins_48 rfl (lv_at hl 3 rfl) ?_
            refine lv_iload_n hx hb dX10_wins_49 rfl (lv_at hl 2 rfl) ?_
            obtain ⟨q50, c50, hf⟩ := br_b hf
            refine x_callV (k := 1) (As := [.int x2, .int x1]) (rest := []) (st1 := [.int q50]) X hR (ctX8_weightFor_t c50) ml_X10_161 im_X8_weightFor se_X8_weightFor in_X8 co_X8_weightFor yo_X8_weightFor rfl kX8 (z_1 b) (rm_ok (by decide) (by decide)) rfl hl.1 rfl rfl (Nat.le_of_ble_eq_true rfl) dX10_wins_50 ⟨Nat.zero_le _, Nat.zero_le _⟩ (fun H locs hR => ?_)
            refine lv_istore (lv' := [(4, .int q50), (3, .int q40), (0, .ref (eB E + 0)), (1, .int x1), (2, .int x2)]) hx hb dX10_wins_53 hl (by decide) rfl (fun ls hl => ?_)
            refine lv_aload_n hx hb dX10_wins_55 rfl (lv_at hl 2 rfl) ?_
            refine x_get hx hb hown hts hK hR kX10 (z_0 b) (j := 0) (by decide) fl_X10_12 (v := .ref (eB E + 1)) rfl dX10_wins_56 ?_
            refine lv_iload_n hx hb dX10_wins_59 rfl (lv_at hl 1 rfl) ?_
            refine lv_iload hx hb dX10_wins_60 (lv_at hl 0 rfl) ?_
            obtain ⟨q62, c62, hf⟩ := br_b hf
            refine x_callV (k := 1) (As := [.int q40, .int q50]) (rest := []) (st1 := [.int q62]) X hR (ctX8_isEnough_t c62) ml_X10_164 im_X8_isEnough se_X8_isEnough in_X8 co_X8_isEnough yo_X8_isEnough rfl kX8 (z_1 b) (rm_ok (by decide) (by decide)) rfl hl.1 rfl rfl (Nat.le_of_ble_eq_true rfl) dX10_wins_62 ⟨Nat.zero_le _, Nat.zero_le _⟩ (fun H locs hR => ?_)
            cases hf
            exact x_zret hx hb hr hlk hR rfl dX10_wins_65
          · have hf := (br_if hf).2 q29
            exact wX10_wins_32 X hf hR (lv_sub hl [] rfl)
theorem ctX10_wins {l : Launch} {E : Ge} {b : Bool} {M : Mem} {x1 : Int32} {x2 : Int32} {r : Int32} (h : fX10_wins M x1 x2 = some r) : CT l E yX10_wins cX10_wins 5 (some .boolean) 5 0 0 [.ref (eB E + 0), .int x1, .int x2] (some (.int r)) (sh_ b) (nn b) M (sh_ b) (nn b) M := by
  refine met_of (by decide) (Nat.le_of_ble_eq_true rfl) ?_
  intro p e s m args below meth c X _ hR ls hl
  exact wX10_wins_0 X h hR hl
end WK
