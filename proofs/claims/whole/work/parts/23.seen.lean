section WK
variable {p : Program} {l : Launch} {e : Env} {s : State} {m : MethodId} {args : Array Value} {below : List Frame} {meth : Method} {c : Code} {E : Ge} {b : Bool}
def fX10_fieldFrom_T (x1 : Int32) (x2 : Int32) (M : Mem) : Option Mem := (fX1_lookFrom x1 x2 M).bind (fun q34 => some q34)
set_option maxHeartbeats 4000000 in
set_option maxRecDepth 100000 in
theorem wX10_fieldFrom_T_0 {M1 : Mem} (X : CX E p s m args c meth cX10_fieldFrom 4 (some (.object "MiddleSheet$Field")) RX10) : ∀ {x1 : Int32} {x2 : Int32} {M : Mem} {H : Heap} {locs : List Loc} {ls : Array Slot}, fX10_fieldFrom_T x1 x2 M = some M1 → Rl E (sh_ true) (nn true) s.heap M H locs → lv_has ls 4 [(0, .ref (eB E + 0)), (1, .int x1), (2, .int x2)] → W p l e (rm 6 0 0) s m args below meth c H locs 0 0 (MQ below (qq E (some (.ref (eB E + 141))) (sh_ true) (nn true) M1) args s 0 0 (fr E)) (F0 m 0 ls []) := by
  obtain ⟨hx, hb, hr, hml, hown, hts, hK, hN, hO, hlk, hbs⟩ := id X
  intro x1 x2 M H locs ls hf hR hl
  unfold fX10_fieldFrom_T at hf
  refine lv_aload_n hx hb dX10_fieldFrom_0 rfl (lv_at hl 0 rfl) ?_
  refine x_get hx hb hown hts hK hR kX10 (z_0 true) (j := 6) (by decide) fl_X10_314 (v := .ref (eB E + 141)) rfl dX10_fieldFrom_1 ?_
  refine lv_ifnonnull (tgt := 21) hx hb dX10_fieldFrom_4 (by decide) ?_
  refine lv_aload_n hx hb dX10_fieldFrom_21 rfl (lv_at hl 0 rfl) ?_
  refine x_get hx hb hown hts hK hR kX10 (z_0 true) (j := 6) (by decide) fl_X10_314 (v := .ref (eB E + 141)) rfl dX10_fieldFrom_22 ?_
  refine lv_astore_n (lv' := [(3, .ref (eB E + 141)), (0, .ref (eB E + 0)), (1, .int x1), (2, .int x2)]) hx hb dX10_fieldFrom_25 rfl hl (by decide) rfl (fun ls hl => ?_)
  refine lv_aload_n hx hb dX10_fieldFrom_26 rfl (lv_at hl 1 rfl) ?_
  refine lv_aload_n hx hb dX10_fieldFrom_27 rfl (lv_at hl 0 rfl) ?_
  refine x_putf (j := 6) (r := 141) hx hb hown hts hK hR kX10 (z_0 true) (by decide) fl_X10_314 rfl rfl rfl rfl dX10_fieldFrom_28 (fun H locs hR => ?_)
  refine lv_aload_n hx hb dX10_fieldFrom_31 rfl (lv_at hl 0 rfl) ?_
  refine lv_iload_n hx hb dX10_fieldFrom_32 rfl (lv_at hl 2 rfl) ?_
  refine lv_iload_n hx hb dX10_fieldFrom_33 rfl (lv_at hl 3 rfl) ?_
  obtain ⟨q34, c34, hf⟩ := br_b hf
  refine x_callV (k := 141) (As := [.int x1, .int x2]) (rest := []) (st1 := []) X hR (ctX1_lookFrom c34) ml_X10_319 im_X1_lookFrom se_X1_lookFrom in_X1 co_X1_lookFrom yo_X1_lookFrom rfl kX1 z_141 (rm_ok (by decide) (by decide)) rfl hl.1 rfl rfl (Nat.le_of_ble_eq_true rfl) dX10_fieldFrom_34 ⟨Nat.zero_le _, Nat.zero_le _⟩ (fun H locs hR => ?_)
  refine lv_aload_n hx hb dX10_fieldFrom_37 rfl (lv_at hl 0 rfl) ?_
  cases hf
  exact x_aret hx hb hr hlk hR dX10_fieldFrom_38
theorem ctX10_fieldFrom_T {l : Launch} {E : Ge} {M : Mem} {x1 : Int32} {x2 : Int32} {M1 : Mem} (h : fX10_fieldFrom_T x1 x2 M = some M1) : CT l E yX10_fieldFrom cX10_fieldFrom 4 (some (.object "MiddleSheet$Field")) 6 0 0 [.ref (eB E + 0), .int x1, .int x2] (some (.ref (eB E + 141))) (sh_ true) (nn true) M (sh_ true) (nn true) M1 := by
  refine met_of (by decide) (Nat.le_of_ble_eq_true rfl) ?_
  intro p e s m args below meth c X _ hR ls hl
  exact wX10_fieldFrom_T_0 X h hR hl
def fX10_winSet_T_27 (M : Mem) : Option (Int32 × Mem) := some ((-1 : Int32), M)
def fX10_winSet_T (x1 : Int32) (x2 : Int32) (x3 : Int32) (M : Mem) : Option (Int32 × Mem) := (if (M.1 1 0) = 0 then fX10_winSet_T_27 M else (fX10_isPoint M x1 x2).bind (fun q12 => (if q12 = 0 then fX10_winSet_T_27 M else (if x3 < 0 then fX10_winSet_T_27 M else (if x3 ≤ (1 : Int32) then (fX10_fieldFrom_T x1 x2 M).bind (fun q32 => (if x3 = 0 then some ((q32.1 141 6), q32) else (fX1_cutPieces q32).bind (fun q49 => some ((q49.1 141 8), q49)))) else fX10_winSet_T_27 M)))))
set_option maxHeartbeats 4000000 in
set_option maxRecDepth 100000 in
theorem wX10_winSet_T_27 {r : Int32} {M1 : Mem} (X : CX E p s m args c meth cX10_winSet 5 (some .int) RX10) : ∀ {M : Mem} {H : Heap} {locs : List Loc} {ls : Array Slot}, fX10_winSet_T_27 M = some (r, M1) → Rl E (sh_ true) (nn true) s.heap M H locs → lv_has ls 5 [] → W p l e (rm 7 0 0) s m args below meth c H locs 0 0 (MQ below (qq E (some (.int r)) (sh_ true) (nn true) M1) args s 0 0 (fr E)) (F0 m 27 ls []) := by
  obtain ⟨hx, hb, hr, hml, hown, hts, hK, hN, hO, hlk, hbs⟩ := id X
  intro M H locs ls hf hR hl
  unfold fX10_winSet_T_27 at hf
  refine lv_iconst (v := -1) hx hb dX10_winSet_27 (by decide) ?_
  cases hf
  exact x_iret hx hb hr hlk hR dX10_winSet_28
set_option maxHeartbeats 4000000 in
set_option maxRecDepth 100000 in
theorem wX10_winSet_T_0 {r : Int32} {M1 : Mem} (X : CX E p s m args c meth cX10_winSet 5 (some .int) RX10) : ∀ {x1 : Int32} {x2 : Int32} {x3 : Int32} {M : Mem} {H : Heap} {locs : List Loc} {ls : Array Slot}, fX10_winSet_T x1 x2 x3 M = some (r, M1) → Rl E (sh_ true) (nn true) s.heap M H locs → lv_has ls 5 [(0, .ref (eB E + 0)), (1, .int x1), (2, .int x2), (3, .int x3)] → W p l e (rm 7 0 0) s m args below meth c H locs 0 0 (MQ below (qq E (some (.int r)) (sh_ true) (nn true) M1) args s 0 0 (fr E)) (F0 m 0 ls []) := by
  obtain ⟨hx, hb, hr, hml, hown, hts, hK, hN, hO, hlk, hbs⟩ := id X
  intro x1 x2 x3 M H locs ls hf hR hl
  unfold fX10_winSet_T at hf
  refine lv_aload_n hx hb dX10_winSet_0 rfl (lv_at hl 0 rfl) ?_
  refine x_get hx hb hown hts hK hR kX10 (z_0 true) (j := 0) (by decide) fl_X10_12 (v := .ref (eB E + 1)) rfl dX10_winSet_1 ?_
  refine x_get hx hb hown hts hK hR kX8 (z_1 true) (j := 0) (by decide) fl_X10_101 (v := .int (M.1 1 0)) rfl dX10_winSet_4 ?_
  refine lv_if_eq (tgt := 27) hx hb dX10_winSet_7 (by decide) (fun q7 => ?_) (fun q7 => ?_)
  · have hf := (br_if hf).1 q7
    exact wX10_winSet_T_27 X hf hR (lv_sub hl [] rfl)
  · have hf := (br_if hf).2 q7
    refine lv_iload_n hx hb dX10_winSet_10 rfl (lv_at hl 1 rfl) ?_
    refine lv_iload_n hx hb dX10_winSet_11 rfl (lv_at hl 2 rfl) ?_
    obtain ⟨q12, c12, hf⟩ := br_b hf
    refine x_callS (As := [.int x1, .int x2]) (rest := []) (st1 := [.int q12]) X hR (ctX10_isPoint c12) ml_X10_136 st_X10_isPoint in_X10 co_X10_isPoint yo_X10_isPoint (rm_ok (by decide) (by decide)) rfl hl.1 rfl rfl (Nat.le_of_ble_eq_true rfl) dX10_winSet_12 ⟨Nat.zero_le _, Nat.zero_le _⟩ (fun H locs hR => ?_)
    refine lv_if_eq (tgt := 27) hx hb dX10_winSet_15 (by decide) (fun q15 => ?_) (fun q15 => ?_)
    · have hf := (br_if hf).1 q15
      exact wX10_winSet_T_27 X hf hR (lv_sub hl [] rfl)
    · have hf := (br_if hf).2 q15
      refine lv_iload_n hx hb dX10_winSet_18 rfl (lv_at hl 3 rfl) ?_
      refine lv_if_lt (tgt := 27) hx hb dX10_winSet_19 (by decide) (fun q19 => ?_) (fun q19 => ?_)
      · have hf := (br_if hf).1 q19
        exact wX10_winSet_T_27 X hf hR (lv_sub hl [] rfl)
      · have hf := (br_if hf).2 q19
        refine lv_iload_n hx hb dX10_winSet_22 rfl (lv_at hl 3 rfl) ?_
        refine lv_iconst (v := 1) hx hb dX10_winSet_23 (by decide) ?_
        refine lv_icmp_le (tgt := 29) hx hb dX10_winSet_24 (by decide) (fun q24 => ?_) (fun q24 => ?_)
        · have hf := (br_if hf).1 q24
          refine lv_aload_n hx hb dX10_winSet_29 rfl (lv_at hl 0 rfl) ?_
          refine lv_iload_n hx hb dX10_winSet_30 rfl (lv_at hl 1 rfl) ?_
          refine lv_iload_n hx hb dX10_winSet_31 rfl (lv_at hl 2 rfl) ?_
          obtain ⟨q32, c32, hf⟩ := br_b hf
          refine x_callV (k := 0) (As := [.int x1, .int x2]) (rest := []) (st1 := [.ref (eB E + 141)]) X hR (ctX10_fieldFrom_T c32) ml_X10_204 im_X10_fieldFrom se_X10_fieldFrom in_X10 co_X10_fieldFrom yo_X10_fieldFrom rfl kX10 (z_0 true) (rm_ok (by decide) (by decide)) rfl hl.1 rfl rfl (Nat.le_of_ble_eq_true rfl) dX10_winSet_32 ⟨Nat.zero_le _, Nat.zero_le _⟩ (fun H locs hR => ?_)
          refine lv_astore (lv' := [(4, .ref (eB E + 141)), (0, .ref (eB E + 0)), (1, .int x1), (2, .int x2), (3, .int x3)]) hx hb dX10_winSet_35 hl (by decide) rfl (fun ls hl => ?_)
          refine lv_iload_n hx hb dX10_winSet_37 rfl (lv_at hl 4 rfl) ?_
          refine lv_if_ne (tgt := 47) hx hb dX10_winSet_38 (by decide) (fun q38 => ?_) (fun q38 => ?_)
          · have hf := (br_if hf).2 q38
            refine lv_aload hx hb dX10_winSet_47 (lv_at hl 0 rfl) ?_
            obtain ⟨q49, c49, hf⟩ := br_b hf
            refine x_callV (k := 141) (As := []) (rest := []) (st1 := []) X hR (ctX1_cutPieces c49) ml_X10_213 im_X1_cutPieces se_X1_cutPieces in_X1 co_X1_cutPieces yo_X1_cutPieces rfl kX1 z_141 (rm_ok (by decide) (by decide)) rfl hl.1 rfl rfl (Nat.le_of_ble_eq_true rfl) dX10_winSet_49 ⟨Nat.zero_le _, Nat.zero_le _⟩ (fun H locs hR => ?_)
            refine lv_aload hx hb dX10_winSet_52 (lv_at hl 0 rfl) ?_
            refine x_get hx hb hown hts hK hR kX1 z_141 (j := 8) (by decide) fl_X10_216 (v := .int (q49.1 141 8)) rfl dX10_winSet_54 ?_
            cases hf
            exact x_iret hx hb hr hlk hR dX10_winSet_57
          · have hf := (br_if hf).1 q38
            refine lv_aload hx hb dX10_winSet_41 (lv_at hl 0 rfl) ?_
            refine x_get hx hb hown hts hK hR kX1 z_141 (j := 6) (by decide) fl_X10_208 (v := .int (q32.1 141 6)) rfl dX10_winSet_43 ?_
            cases hf
            exact x_iret hx hb hr hlk hR dX10_winSet_46
        · have hf := (br_if hf).2 q24
          exact wX10_winSet_T_27 X hf hR (lv_sub hl [] rfl)
theorem ctX10_winSet_T {l : Launch} {E : Ge} {M : Mem} {x1 : Int32} {x2 : Int32} {x3 : Int32} {r : Int32} {M1 : Mem} (h : fX10_winSet_T x1 x2 x3 M = some (r, M1)) : CT l E yX10_winSet cX10_winSet 5 (some .int) 7 0 0 [.ref (eB E + 0), .int x1, .int x2, .int x3] (some (.int r)) (sh_ true) (nn true) M (sh_ true) (nn true) M1 := by
  refine met_of (by decide) (Nat.le_of_ble_eq_true rfl) ?_
  intro p e s m args below meth c X _ hR ls hl
  exact wX10_winSet_T_0 X h hR hl
def fX10_winSet_E_27 (M : Mem) : Option Int32 := some (-1 : Int32)
def fX10_winSet_E (M : Mem) (x1 : Int32) (x2 : Int32) (x3 : Int32) : Option Int32 := (if (M.1 1 0) = 0 then fX10_winSet_E_27 M else (fX10_isPoint M x1 x2).bind (fun q12 => (if q12 = 0 then fX10_winSet_E_27 M else (if x3 < 0 then fX10_winSet_E_27 M else (if x3 ≤ (1 : Int32) then none else fX10_winSet_E_27 M)))))
set_option maxHeartbeats 4000000 in
set_option maxRecDepth 100000 in
theorem wX10_winSet_E_27 {r : Int32} {M : Mem} (X : CX E p s m args c meth cX10_winSet 5 (some .int) RX10) : ∀ {H : Heap} {locs : List Loc} {ls : Array Slot}, fX10_winSet_E_27 M = some r → Rl E (sh_ false) (nn false) s.heap M H locs → lv_has ls 5 [] → W p l e (rm 7 0 0) s m args below meth c H locs 0 0 (MQ below (qq E (some (.int r)) (sh_ false) (nn false) M) args s 0 0 (fr E)) (F0 m 27 ls []) := by
  obtain ⟨hx, hb, hr, hml, hown, hts, hK, hN, hO, hlk, hbs⟩ := id X
  intro H locs ls hf hR hl
  unfold fX10_winSet_E_27 at hf
  refine lv_iconst (v := -1) hx hb dX10_winSet_27 (by decide) ?_
  cases hf
  exact x_iret hx hb hr hlk hR dX10_winSet_28
set_option maxHeartbeats 4000000 in
set_option maxRecDepth 100000 in
theorem wX10_winSet_E_0 {r : Int32} {M : Mem} (X : CX E p s m args c meth cX10_winSet 5 (some .int) RX10) : ∀ {x1 : Int32} {x2 : Int32} {x3 : Int32} {H : Heap} {locs : List Loc} {ls : Array Slot}, fX10_winSet_E M x1 x2 x3 = some r → Rl E (sh_ false) (nn false) s.heap M H locs → lv_has ls 5 [(0, .ref (eB E + 0)), (1, .int x1), (2, .int x2), (3, .int x3)] → W p l e (rm 7 0 0) s m args below meth c H locs 0 0 (MQ below (qq E (some (.int r)) (sh_ false) (nn false) M) args s 0 0 (fr E)) (F0 m 0 ls []) := by
  obtain ⟨hx, hb, hr, hml, hown, hts, hK, hN, hO, hlk, hbs⟩ := id X
  intro x1 x2 x3 H locs ls hf hR hl
  unfold fX10_winSet_E at hf
  refine lv_aload_n hx hb dX10_winSet_0 rfl (lv_at hl 0 rfl) ?_
  refine x_get hx hb hown hts hK hR kX10 (z_0 false) (j := 0) (by decide) fl_X10_12 (v := .ref (eB E + 1)) rfl dX10_winSet_1 ?_
  refine x_get hx hb hown hts hK hR kX8 (z_1 false) (j := 0) (by decide) fl_X10_101 (v := .int (M.1 1 0)) rfl dX10_winSet_4 ?_
  refine lv_if_eq (tgt := 27) hx hb dX10_winSet_7 (by decide) (fun q7 => ?_) (fun q7 => ?_)
  · have hf := (br_if hf).1 q7
    exact wX10_winSet_E_27 X hf hR (lv_sub hl [] rfl)
  · have hf := (br_if hf).2 q7
    refine lv_iload_n hx hb dX10_winSet_10 rfl (lv_at hl 1 rfl) ?_
    refine lv_iload_n hx hb dX10_winSet_11 rfl (lv_at hl 2 rfl) ?_
    obtain ⟨q12, c12, hf⟩ := br_b hf
    refine x_callS (As := [.int x1, .int x2]) (rest := []) (st1 := [.int q12]) X hR (ctX10_isPoint c12) ml_X10_136 st_X10_isPoint in_X10 co_X10_isPoint yo_X10_isPoint (rm_ok (by decide) (by decide)) rfl hl.1 rfl rfl (Nat.le_of_ble_eq_true rfl) dX10_winSet_12 ⟨Nat.zero_le _, Nat.zero_le _⟩ (fun H locs hR => ?_)
    refine lv_if_eq (tgt := 27) hx hb dX10_winSet_15 (by decide) (fun q15 => ?_) (fun q15 => ?_)
    · have hf := (br_if hf).1 q15
      exact wX10_winSet_E_27 X hf hR (lv_sub hl [] rfl)
    · have hf := (br_if hf).2 q15
      refine lv_iload_n hx hb dX10_winSet_18 rfl (lv_at hl 3 rfl) ?_
      refine lv_if_lt (tgt := 27) hx hb dX10_winSet_19 (by decide) (fun q19 => ?_) (fun q19 => ?_)
      · have hf := (br_if hf).1 q19
        exact wX10_winSet_E_27 X hf hR (lv_sub hl [] rfl)
      · have hf := (br_if hf).2 q19
        refine lv_iload_n hx hb dX10_winSet_22 rfl (lv_at hl 3 rfl) ?_
        refine lv_iconst (v := 1) hx hb dX10_winSet_23 (by decide) ?_
        refine lv_icmp_le (tgt := 29) hx hb dX10_winSet_24 (by decide) (fun q24 => ?_) (fun q24 => ?_)
        · have hf := (br_if hf).1 q24
          refine lv_aload_n hx hb dX10_winSet_29 rfl (lv_at hl 0 rfl) ?_
          refine lv_iload_n hx hb dX10_winSet_30 rfl (lv_at hl 1 rfl) ?_
          refine lv_iload_n hx hb dX10_winSet_31 rfl (lv_at hl 2 rfl) ?_
          cases hf
        · have hf := (br_if hf).2 q24
          exact wX10_winSet_E_27 X hf hR (lv_sub hl [] rfl)
theorem ctX10_winSet_E {l : Launch} {E : Ge} {M : Mem} {x1 : Int32} {x2 : Int32} {x3 : Int32} {r : Int32} (h : fX10_winSet_E M x1 x2 x3 = some r) : CT l E yX10_winSet cX10_winSet 5 (some .int) 7 0 0 [.ref (eB E + 0), .int x1, .int x2, .int x3] (some (.int r)) (sh_ false) (nn false) M (sh_ false) (nn false) M := by
  refine met_of (by decide) (Nat.le_of_ble_eq_true rfl) ?_
  intro p e s m args below meth c X _ hR ls hl
  exact wX10_winSet_E_0 X h hR hl
def fX10_winSet_F_27 (M : Mem) : Option (Int32 × Mem) := none
def fX10_winSet_F (x1 : Int32) (x2 : Int32) (x3 : Int32) (M : Mem) : Option (Int32 × Mem) := (if (M.1 1 0) = 0 then fX10_winSet_F_27 M else (fX10_isPoint M x1 x2).bind (fun q12 => (if q12 = 0 then fX10_winSet_F_27 M else (if x3 < 0 then fX10_winSet_F_27 M else (if x3 ≤ (1 : Int32) then (fX10_fieldFrom_F x1 x2 M).bind (fun q32 => (if x3 = 0 then some ((q32.1 141 6), q32) else (fX1_cutPieces q32).bind (fun q49 => some ((q49.1 141 8), q49)))) else fX10_winSet_F_27 M)))))
set_option maxHeartbeats 4000000 in
set_option maxRecDepth 100000 in
theorem wX10_winSet_F_27 {r : Int32} {M1 : Mem} (X : CX E p s m args c meth cX10_winSet 5 (some .int) RX10) : ∀ {M : Mem} {H : Heap} {locs : List Loc} {ls : Array Slot}, fX10_winSet_F_27 M = some (r, M1) → Rl E (sh_ false) (nn false) s.heap M H locs → lv_has ls 5 [] → W p l e (rm 7 6 45012) s m args below meth c H locs 0 0 (MQ below (qq E (some (.int r)) (sh_ true) (nn true) M1) args s 6 45012 (fr E)) (F0 m 27 ls []) := by
  obtain ⟨hx, hb, hr, hml, hown, hts, hK, hN, hO, hlk, hbs⟩ := id X
  intro M H locs ls hf hR hl
  unfold fX10_winSet_F_27 at hf
  refine lv_iconst (v := -1) hx hb dX10_winSet_27 (by decide) ?_
  cases hf
set_option maxHeartbeats 4000000 in
set_option maxRecDepth 100000 in
theorem wX10_winSet_F_0 {r : Int32} {M1 : Mem} (X : CX E p s m args c meth cX10_winSet 5 (some .int) RX10) : ∀ {x1 : Int32} {x2 : Int32} {x3 : Int32} {M : Mem} {H : Heap} {locs : List Loc} {ls : Array Slot}, fX10_winSet_F x1 x2 x3 M = some (r, M1) → Rl E (sh_ false) (nn false) s.heap M H locs → lv_has ls 5 [(0, .ref (eB E + 0)), (1, .int x1), (2, .int x2), (3, .int x3)] → W p l e (rm 7 6 45012) s m args below meth c H locs 0 0 (MQ below (qq E (some (.int r)) (sh_ true) (nn true) M1) args s 6 45012 (fr E)) (F0 m 0 ls []) := by
  obtain ⟨hx, hb, hr, hml, hown, hts, hK, hN, hO, hlk, hbs⟩ := id X
  intro x1 x2 x3 M H locs ls hf hR hl
  unfold fX10_winSet_F at hf
  refine lv_aload_n hx hb dX10_winSet_0 rfl (lv_at hl 0 rfl) ?_
  refine x_get hx hb hown hts hK hR kX10 (z_0 false) (j := 0) (by decide) fl_X10_12 (v := .ref (eB E + 1)) rfl dX10_winSet_1 ?_
  refine x_get hx hb hown hts hK hR kX8 (z_1 false) (j := 0) (by decide) fl_X10_101 (v := .int (M.1 1 0)) rfl dX10_winSet_4 ?_
  refine lv_if_eq (tgt := 27) hx hb dX10_winSet_7 (by decide) (fun q7 => ?_) (fun q7 => ?_)
  · have hf := (br_if hf).1 q7
    exact wX10_winSet_F_27 X hf hR (lv_sub hl [] rfl)
  · have hf := (br_if hf).2 q7
    refine lv_iload_n hx hb dX10_winSet_10 rfl (lv_at hl 1 rfl) ?_
    refine lv_iload_n hx hb dX10_winSet_11 rfl (lv_at hl 2 rfl) ?_
    obtain ⟨q12, c12, hf⟩ := br_b hf
    refine x_callS (As := [.int x1, .int x2]) (rest := []) (st1 := [.int q12]) X hR (ctX10_isPoint c12) ml_X10_136 st_X10_isPoint in_X10 co_X10_isPoint yo_X10_isPoint (rm_ok (by decide) (by decide)) rfl hl.1 rfl rfl (Nat.le_of_ble_eq_true rfl) dX10_winSet_12 ⟨Nat.le_of_ble_eq_true rfl, Nat.le_of_ble_eq_true rfl⟩ (fun H locs hR => ?_)
    refine lv_if_eq (tgt := 27) hx hb dX10_winSet_15 (by decide) (fun q15 => ?_) (fun q15 => ?_)
    · have hf := (br_if hf).1 q15
      exact wX10_winSet_F_27 X hf hR (lv_sub hl [] rfl)
    · have hf := (br_if hf).2 q15
      refine lv_iload_n hx hb dX10_winSet_18 rfl (lv_at hl 3 rfl) ?_
      refine lv_if_lt (tgt := 27) hx hb dX10_winSet_19 (by decide) (fun q19 => ?_) (fun q19 => ?_)
      · have hf := (br_if hf).1 q19
        exact wX10_winSet_F_27 X hf hR (lv_sub hl [] rfl)
      · have hf := (br_if hf).2 q19
        refine lv_iload_n hx hb dX10_winSet_22 rfl (lv_at hl 3 rfl) ?_
        refine lv_iconst (v := 1) hx hb dX10_winSet_23 (by decide) ?_
        refine lv_icmp_le (tgt := 29) hx hb dX10_winSet_24 (by decide) (fun q24 => ?_) (fun q24 => ?_)
        · have hf := (br_if hf).1 q24
          refine lv_aload_n hx hb dX10_winSet_29 rfl (lv_at hl 0 rfl) ?_
          refine lv_iload_n hx hb dX10_winSet_30 rfl (lv_at hl 1 rfl) ?_
          refine lv_iload_n hx hb dX10_winSet_31 rfl (lv_at hl 2 rfl) ?_
          obtain ⟨q32, c32, hf⟩ := br_b hf
          refine x_callV (k := 0) (As := [.int x1, .int x2]) (rest := []) (st1 := [.ref (eB E + 141)]) X hR (ctX10_fieldFrom_F c32) ml_X10_204 im_X10_fieldFrom se_X10_fieldFrom in_X10 co_X10_fieldFrom yo_X10_fieldFrom rfl kX10 (z_0 false) (rm_ok (by decide) (by decide)) rfl hl.1 rfl rfl (Nat.le_of_ble_eq_true rfl) dX10_winSet_32 ⟨Nat.le_of_ble_eq_true rfl, Nat.le_of_ble_eq_true rfl⟩ (fun H locs hR => ?_)
          refine lv_astore (lv' := [(4, .ref (eB E + 141)), (0, .ref (eB E + 0)), (1, .int x1), (2, .int x2), (3, .int x3)]) hx hb dX10_winSet_35 hl (by decide) rfl (fun ls hl => ?_)
          refine lv_iload_n hx hb dX10_winSet_37 rfl (lv_at hl 4 rfl) ?_
          refine lv_if_ne (tgt := 47) hx hb dX10_winSet_38 (by decide) (fun q38 => ?_) (fun q38 => ?_)
          · have hf := (br_if hf).2 q38
            refine lv_aload hx hb dX10_winSet_47 (lv_at hl 0 rfl) ?_
            obtain ⟨q49, c49, hf⟩ := br_b hf
            refine x_callV (k := 141) (As := []) (rest := []) (st1 := []) X hR (ctX1_cutPieces c49) ml_X10_213 im_X1_cutPieces se_X1_cutPieces in_X1 co_X1_cutPieces yo_X1_cutPieces rfl kX1 z_141 (rm_ok (by decide) (by decide)) rfl hl.1 rfl rfl (Nat.le_of_ble_eq_true rfl) dX10_winSet_49 ⟨Nat.le_of_ble_eq_true rfl, Nat.le_of_ble_eq_true rfl⟩ (fun H locs hR => ?_)
            refine lv_aload hx hb dX10_winSet_52 (lv_at hl 0 rfl) ?_
            refine x_get hx hb hown hts hK hR kX1 z_141 (j := 8) (by decide) fl_X10_216 (v := .int (q49.1 141 8)) rfl dX10_winSet_54 ?_
            cases hf
            exact x_iret hx hb hr hlk hR dX10_winSet_57
          · have hf := (br_if hf).1 q38
            refine lv_aload hx hb dX10_winSet_41 (lv_at hl 0 rfl) ?_
            refine x_get hx hb hown hts hK hR kX1 z_141 (j := 6) (by decide) fl_X10_208 (v := .int (q32.1 141 6)) rfl dX10_winSet_43 ?_
            cases hf
            exact x_iret hx hb hr hlk hR dX10_winSet_46
        · have hf := (br_if hf).2 q24
          exact wX10_winSet_F_27 X hf hR (lv_sub hl [] rfl)
theorem ctX10_winSet_F {l : Launch} {E : Ge} {M : Mem} {x1 : Int32} {x2 : Int32} {x3 : Int32} {r : Int32} {M1 : Mem} (h : fX10_winSet_F x1 x2 x3 M = some (r, M1)) : CT l E yX10_winSet cX10_winSet 5 (some .int) 7 6 45012 [.ref (eB E + 0), .int x1, .int x2, .int x3] (some (.int r)) (sh_ false) (nn false) M (sh_ true) (nn true) M1 := by
  refine met_of (by decide) (Nat.le_of_ble_eq_true rfl) ?_
  intro p e s m args below meth c X _ hR ls hl
  exact wX10_winSet_F_0 X h hR hl
def fX10_piece_T_33 (M : Mem) : Option (Int32 × Mem) := some ((-1 : Int32), M)
def fX10_piece_T_98 (s0 : Int32) (M : Mem) : Option (Int32 × Mem) := some (s0, M)
def fX10_piece_T (x1 : Int32) (x2 : Int32) (x3 : Int32) (x4 : Int32) (M : Mem) : Option (Int32 × Mem) := (if (M.1 1 0) = 0 then fX10_piece_T_33 M else (fX10_isPoint M x1 x2).bind (fun q12 => (if q12 = 0 then fX10_piece_T_33 M else (if x4 < 0 then fX10_piece_T_33 M else (if (2 : Int32) < x4 then fX10_piece_T_33 M else (if 0 ≤ x3 then (fX10_fieldFrom_T x1 x2 M).bind (fun q38 => (fX1_cutPieces q38).bind (fun q45 => (if x3 < (q45.1 141 8) then (if x4 = (2 : Int32) then (fX1_sizeOf q45 x3).bind (fun q68 => some (q68, q45)) else (fX1_firstOf q45 x3).bind (fun q75 => (if x4 = 0 then fX10_piece_T_98 ((q75 / (100 : Int32))) q45 else fX10_piece_T_98 ((irm q75 (100 : Int32))) q45))) else some ((-1 : Int32), q45)))) else fX10_piece_T_33 M))))))
set_option maxHeartbeats 4000000 in
set_option maxRecDepth 100000 in
theorem wX10_piece_T_33 {r : Int32} {M1 : Mem} (X : CX E p s m args c meth cX10_piece 7 (some .int) RX10) : ∀ {M : Mem} {H : Heap} {locs : List Loc} {ls : Array Slot}, fX10_piece_T_33 M = some (r, M1) → Rl E (sh_ true) (nn true) s.heap M H locs → lv_has ls 7 [] → W p l e (rm 7 0 0) s m args below meth c H locs 0 0 (MQ below (qq E (some (.int r)) (sh_ true) (nn true) M1) args s 0 0 (fr E)) (F0 m 33 ls []) := by
  obtain ⟨hx, hb, hr, hml, hown, hts, hK, hN, hO, hlk, hbs⟩ := id X
  intro M H locs ls hf hR hl
  unfold fX10_piece_T_33 at hf
  refine lv_iconst (v := -1) hx hb dX10_piece_33 (by decide) ?_
  cases hf
  exact x_iret hx hb hr hlk hR dX10_piece_34
set_option maxHeartbeats 4000000 in
set_option maxRecDepth 100000 in
theorem wX10_piece_T_98 {r : Int32} {M1 : Mem} (X : CX E p s m args c meth cX10_piece 7 (some .int) RX10) : ∀ {s0 : Int32} {M : Mem} {H : Heap} {locs : List Loc} {ls : Array Slot}, fX10_piece_T_98 s0 M = some (r, M1) → Rl E (sh_ true) (nn true) s.heap M H locs → lv_has ls 7 [] → W p l e (rm 7 0 0) s m args below meth c H locs 0 0 (MQ below (qq E (some (.int r)) (sh_ true) (nn true) M1) args s 0 0 (fr E)) (F0 m 98 ls [.int s0]) := by
  obtain ⟨hx, hb, hr, hml, hown, hts, hK, hN, hO, hlk, hbs⟩ := id X
  intro s0 M H locs ls hf hR hl
  unfold fX10_piece_T_98 at hf
  cases hf
  exact x_iret hx hb hr hlk hR dX10_piece_98
set_option maxHeartbeats 4000000 in
set_option maxRecDepth 100000 in
theorem wX10_piece_T_0 {r : Int32} {M1 : Mem} (X : CX E p s m args c meth cX10_piece 7 (some .int) RX10) : ∀ {x1 : Int32} {x2 : Int32} {x3 : Int32} {x4 : Int32} {M : Mem} {H : Heap} {locs : List Loc} {ls : Array Slot}, fX10_piece_T x1 x2 x3 x4 M = some (r, M1) → Rl E (sh_ true) (nn true) s.heap M H locs → lv_has ls 7 [(0, .ref (eB E + 0)), (1, .int x1), (2, .int x2), (3, .int x3), (4, .int x4)] → W p l e (rm 7 0 0) s m args below meth c H locs 0 0 (MQ below (qq E (some (.int r)) (sh_ true) (nn true) M1) args s 0 0 (fr E)) (F0 m 0 ls []) := by
  obtain ⟨hx, hb, hr, hml, hown, hts, hK, hN, hO, hlk, hbs⟩ := id X
  intro x1 x2 x3 x4 M H locs ls hf hR hl
  unfold fX10_piece_T at hf
  refine lv_aload_n hx hb dX10_piece_0 rfl (lv_at hl 0 rfl) ?_
  refine x_get hx hb hown hts hK hR kX10 (z_0 true) (j := 0) (by decide) fl_X10_12 (v := .ref (eB E + 1)) rfl dX10_piece_1 ?_
  refine x_get hx hb hown hts hK hR kX8 (z_1 true) (j := 0) (by decide) fl_X10_101 (v := .int (M.1 1 0)) rfl dX10_piece_4 ?_
  refine lv_if_eq (tgt := 33) hx hb dX10_piece_7 (by decide) (fun q7 => ?_) (fun q7 => ?_)
  · have hf := (br_if hf).1 q7
    exact wX10_piece_T_33 X hf hR (lv_sub hl [] rfl)
  · have hf := (br_if hf).2 q7
    refine lv_iload_n hx hb dX10_piece_10 rfl (lv_at hl 1 rfl) ?_
    refine lv_iload_n hx hb dX10_piece_11 rfl (lv_at hl 2 rfl) ?_
    obtain ⟨q12, c12, hf⟩ := br_b hf
    refine x_callS (As := [.int x1, .int x2]) (rest := []) (st1 := [.int q12]) X hR (ctX10_isPoint c12) ml_X10_136 st_X10_isPoint in_X10 co_X10_isPoint yo_X10_isPoint (rm_ok (by decide) (by decide)) rfl hl.1 rfl rfl (Nat.le_of_ble_eq_true rfl) dX10_piece_12 ⟨Nat.zero_le _, Nat.zero_le _⟩ (fun H locs hR => ?_)
    refine lv_if_eq (tgt := 33) hx hb dX10_piece_15 (by decide) (fun q15 => ?_) (fun q15 => ?_)
    · have hf := (br_if hf).1 q15
      exact wX10_piece_T_33 X hf hR (lv_sub hl [] rfl)
    · have hf := (br_if hf).2 q15
      refine lv_iload hx hb dX10_piece_18 (lv_at hl 4 rfl) ?_
      refine lv_if_lt (tgt := 33) hx hb dX10_piece_20 (by decide) (fun q20 => ?_) (fun q20 => ?_)
      · have hf := (br_if hf).1 q20
        exact wX10_piece_T_33 X hf hR (lv_sub hl [] rfl)
      · have hf := (br_if hf).2 q20
        refine lv_iload hx hb dX10_piece_23 (lv_at hl 4 rfl) ?_
        refine lv_iconst (v := 2) hx hb dX10_piece_25 (by decide) ?_
        refine lv_icmp_gt (tgt := 33) hx hb dX10_piece_26 (by decide) (fun q26 => ?_) (fun q26 => ?_)
        · have hf := (br_if hf).1 q26
          exact wX10_piece_T_33 X hf hR (lv_sub hl [] rfl)
        · have hf := (br_if hf).2 q26
          refine lv_iload_n hx hb dX10_piece_29 rfl (lv_at hl 3 rfl) ?_
          refine lv_if_ge (tgt := 35) hx hb dX10_piece_30 (by decide) (fun q30 => ?_) (fun q30 => ?_)
          · have hf := (br_if hf).1 q30
            refine lv_aload_n hx hb dX10_piece_35 rfl (lv_at hl 0 rfl) ?_
            refine lv_iload_n hx hb dX10_piece_36 rfl (lv_at hl 1 rfl) ?_
            refine lv_iload_n hx hb dX10_piece_37 rfl (lv_at hl 2 rfl) ?_
            obtain ⟨q38, c38, hf⟩ := br_b hf
            refine x_callV (k := 0) (As := [.int x1, .int x2]) (rest := []) (st1 := [.ref (eB E + 141)]) X hR (ctX10_fieldFrom_T c38) ml_X10_204 im_X10_fieldFrom se_X10_fieldFrom in_X10 co_X10_fieldFrom yo_X10_fieldFrom rfl kX10 (z_0 true) (rm_ok (by decide) (by decide)) rfl hl.1 rfl rfl (Nat.le_of_ble_eq_true rfl) dX10_piece_38 ⟨Nat.zero_le _, Nat.zero_le _⟩ (fun H locs hR => ?_)
            refine lv_astore (lv' := [(5, .ref (eB E + 141)), (0, .ref (eB E + 0)), (1, .int x1), (2, .int x2), (3, .int x3), (4, .int x4)]) hx hb dX10_piece_41 hl (by decide) rfl (fun ls hl => ?_)
            refine lv_aload hx hb dX10_piece_43 (lv_at hl 0 rfl) ?_
            obtain ⟨q45, c45, hf⟩ := br_b hf
            refine x_callV (k := 141) (As := []) (rest := []) (st1 := []) X hR (ctX1_cutPieces c45) ml_X10_213 im_X1_cutPieces se_X1_cutPieces in_X1 co_X1_cutPieces yo_X1_cutPieces rfl kX1 z_141 (rm_ok (by decide) (by decide)) rfl hl.1 rfl rfl (Nat.le_of_ble_eq_true rfl) dX10_piece_45 ⟨Nat.zero_le _, Nat.zero_le _⟩ (fun H locs hR => ?_)
            refine lv_iload_n hx hb dX10_piece_48 rfl (lv_at hl 4 rfl) ?_
            refine lv_aload hx hb dX10_piece_49 (lv_at hl 0 rfl) ?_
            refine x_get hx hb hown hts hK hR kX1 z_141 (j := 8) (by decide) fl_X10_216 (v := .int (q45.1 141 8)) rfl dX10_piece_51 ?_
            refine lv_icmp_lt (tgt := 59) hx hb dX10_piece_54 (by decide) (fun q54 => ?_) (fun q54 => ?_)
            · have hf := (br_if hf).1 q54
              refine lv_iload hx hb dX10_piece_59 (lv_at hl 5 rfl) ?_
              refine lv_iconst (v := 2) hx hb dX10_piece_61 (by decide) ?_
              refine lv_icmp_ne (tgt := 72) hx hb dX10_piece_62 (by decide) (fun q62 => ?_) (fun q62 => ?_)
              · have hf := (br_if hf).2 q62
                refine lv_aload hx hb dX10_piece_72 (lv_at hl 0 rfl) ?_
                refine lv_iload_n hx hb dX10_piece_74 rfl (lv_at hl 4 rfl) ?_
                obtain ⟨q75, c75, hf⟩ := br_b hf
                refine x_callV (k := 141) (As := [.int x3]) (rest := []) (st1 := [.int q75]) X hR (ctX1_firstOf c75) ml_X10_223 im_X1_firstOf se_X1_firstOf in_X1 co_X1_firstOf yo_X1_firstOf rfl kX1 z_141 (rm_ok (by decide) (by decide)) rfl hl.1 rfl rfl (Nat.le_of_ble_eq_true rfl) dX10_piece_75 ⟨Nat.zero_le _, Nat.zero_le _⟩ (fun H locs hR => ?_)
                refine lv_istore (lv' := [(6, .int q75), (5, .ref (eB E + 141)), (0, .ref (eB E + 0)), (1, .int x1), (2, .int x2), (3, .int x3), (4, .int x4)]) hx hb dX10_piece_78 hl (by decide) rfl (fun ls hl => ?_)
                refine lv_iload hx hb dX10_piece_80 (lv_at hl 6 rfl) ?_
                refine lv_if_ne (tgt := 93) hx hb dX10_piece_82 (by decide) (fun q82 => ?_) (fun q82 => ?_)
                · have hf := (br_if hf).2 q82
                  refine lv_iload hx hb dX10_piece_93 (lv_at hl 0 rfl) ?_
                  refine lv_bipush (v := 100) hx hb dX10_piece_95 (by decide) ?_
                  refine lv_irem hx hb dX10_piece_97 (by decide) ?_
                  refine W.eq (g2 := F0 m 98 ls [.int (irm q75 (100 : Int32))]) rfl ?_
                  exact wX10_piece_T_98 X hf hR (lv_sub hl [] rfl)
                · have hf := (br_if hf).1 q82
                  refine lv_iload hx hb dX10_piece_85 (lv_at hl 0 rfl) ?_
                  refine lv_bipush (v := 100) hx hb dX10_piece_87 (by decide) ?_
                  refine lv_idiv hx hb dX10_piece_89 (by decide) ?_
                  refine lv_goto (tgt := 98) hx hb dX10_piece_90 (by decide) ?_
                  exact wX10_piece_T_98 X hf hR (lv_sub hl [] rfl)
              · have hf := (br_if hf).1 q62
                refine lv_aload hx hb dX10_piece_65 (lv_at hl 0 rfl) ?_
                refine lv_iload_n hx hb dX10_piece_67 rfl (lv_at hl 4 rfl) ?_
                obtain ⟨q68, c68, hf⟩ := br_b hf
                refine x_callV (k := 141) (As := [.int x3]) (rest := []) (st1 := [.int q68]) X hR (ctX1_sizeOf c68) ml_X10_219 im_X1_sizeOf se_X1_sizeOf in_X1 co_X1_sizeOf yo_X1_sizeOf rfl kX1 z_141 (rm_ok (by decide) (by decide)) rfl hl.1 rfl rfl (Nat.le_of_ble_eq_true rfl) dX10_piece_68 ⟨Nat.zero_le _, Nat.zero_le _⟩ (fun H locs hR => ?_)
                cases hf
                exact x_iret hx hb hr hlk hR dX10_piece_71
            · have hf := (br_if hf).2 q54
              refine lv_iconst (v := -1) hx hb dX10_piece_57 (by decide) ?_
              cases hf
              exact x_iret hx hb hr hlk hR dX10_piece_58
          · have hf := (br_if hf).2 q30
            exact wX10_piece_T_33 X hf hR (lv_sub hl [] rfl)
theorem ctX10_piece_T {l : Launch} {E : Ge} {M : Mem} {x1 : Int32} {x2 : Int32} {x3 : Int32} {x4 : Int32} {r : Int32} {M1 : Mem} (h : fX10_piece_T x1 x2 x3 x4 M = some (r, M1)) : CT l E yX10_piece cX10_piece 7 (some .int) 7 0 0 [.ref (eB E + 0), .int x1, .int x2, .int x3, .int x4] (some (.int r)) (sh_ true) (nn true) M (sh_ true) (nn true) M1 := by
  refine met_of (by decide) (Nat.le_of_ble_eq_true rfl) ?_
  intro p e s m args below meth c X _ hR ls hl
  exact wX10_piece_T_0 X h hR hl
def fX10_piece_E_33 (M : Mem) : Option Int32 := some (-1 : Int32)
def fX10_piece_E (M : Mem) (x1 : Int32) (x2 : Int32) (x3 : Int32) (x4 : Int32) : Option Int32 := (if (M.1 1 0) = 0 then fX10_piece_E_33 M else (fX10_isPoint M x1 x2).bind (fun q12 => (if q12 = 0 then fX10_piece_E_33 M else (if x4 < 0 then fX10_piece_E_33 M else (if (2 : Int32) < x4 then fX10_piece_E_33 M else (if 0 ≤ x3 then none else fX10_piece_E_33 M))))))
set_option maxHeartbeats 4000000 in
set_option maxRecDepth 100000 in
theorem wX10_piece_E_33 {r : Int32} {M : Mem} (X : CX E p s m args c meth cX10_piece 7 (some .int) RX10) : ∀ {H : Heap} {locs : List Loc} {ls : Array Slot}, fX10_piece_E_33 M = some r → Rl E (sh_ false) (nn false) s.heap M H locs → lv_has ls 7 [] → W p l e (rm 7 0 0) s m args below meth c H locs 0 0 (MQ below (qq E (some (.int r)) (sh_ false) (nn false) M) args s 0 0 (fr E)) (F0 m 33 ls []) := by
  obtain ⟨hx, hb, hr, hml, hown, hts, hK, hN, hO, hlk, hbs⟩ := id X
  intro H locs ls hf hR hl
  unfold fX10_piece_E_33 at hf
  refine lv_iconst (v := -1) hx hb dX10_piece_33 (by decide) ?_
  cases hf
  exact x_iret hx hb hr hlk hR dX10_piece_34
set_option maxHeartbeats 4000000 in
set_option maxRecDepth 100000 in
theorem wX10_piece_E_0 {r : Int32} {M : Mem} (X : CX E p s m args c meth cX10_piece 7 (some .int) RX10) : ∀ {x1 : Int32} {x2 : Int32} {x3 : Int32} {x4 : Int32} {H : Heap} {locs : List Loc} {ls : Array Slot}, fX10_piece_E M x1 x2 x3 x4 = some r → Rl E (sh_ false) (nn false) s.heap M H locs → lv_has ls 7 [(0, .ref (eB E + 0)), (1, .int x1), (2, .int x2), (3, .int x3), (4, .int x4)] → W p l e (rm 7 0 0) s m args below meth c H locs 0 0 (MQ below (qq E (some (.int r)) (sh_ false) (nn false) M) args s 0 0 (fr E)) (F0 m 0 ls []) := by
  obtain ⟨hx, hb, hr, hml, hown, hts, hK, hN, hO, hlk, hbs⟩ := id X
  intro x1 x2 x3 x4 H locs ls hf hR hl
  unfold fX10_piece_E at hf
  refine lv_aload_n hx hb dX10_piece_0 rfl (lv_at hl 0 rfl) ?_
  refine x_get hx hb hown hts hK hR kX10 (z_0 false) (j := 0) (by decide) fl_X10_12 (v := .ref (eB E + 1)) rfl dX10_piece_1 ?_
  refine x_get hx hb hown hts hK hR kX8 (z_1 false) (j := 0) (by decide) fl_X10_101 (v := .int (M.1 1 0)) rfl dX10_piece_4 ?_
  refine lv_if_eq (tgt := 33) hx hb dX10_piece_7 (by decide) (fun q7 => ?_) (fun q7 => ?_)
  · have hf := (br_if hf).1 q7
    exact wX10_piece_E_33 X hf hR (lv_sub hl [] rfl)
  · have hf := (br_if hf).2 q7
    refine lv_iload_n hx hb dX10_piece_10 rfl (lv_at hl 1 rfl) ?_
    refine lv_iload_n hx hb dX10_piece_11 rfl (lv_at hl 2 rfl) ?_
    obtain ⟨q12, c12, hf⟩ := br_b hf
    refine x_callS (As := [.int x1, .int x2]) (rest := []) (st1 := [.int q12]) X hR (ctX10_isPoint c12) ml_X10_136 st_X10_isPoint in_X10 co_X10_isPoint yo_X10_isPoint (rm_ok (by decide) (by decide)) rfl hl.1 rfl rfl (Nat.le_of_ble_eq_true rfl) dX10_piece_12 ⟨Nat.zero_le _, Nat.zero_le _⟩ (fun H locs hR => ?_)
    refine lv_if_eq (tgt := 33) hx hb dX10_piece_15 (by decide) (fun q15 => ?_) (fun q15 => ?_)
    · have hf := (br_if hf).1 q15
      exact wX10_piece_E_33 X hf hR (lv_sub hl [] rfl)
    · have hf := (br_if hf).2 q15
      refine lv_iload hx hb dX10_piece_18 (lv_at hl 4 rfl) ?_
      refine lv_if_lt (tgt := 33) hx hb dX10_piece_20 (by decide) (fun q20 => ?_) (fun q20 => ?_)
      · have hf := (br_if hf).1 q20
        exact wX10_piece_E_33 X hf hR (lv_sub hl [] rfl)
      · have hf := (br_if hf).2 q20
        refine lv_iload hx hb dX10_piece_23 (lv_at hl 4 rfl) ?_
        refine lv_iconst (v := 2) hx hb dX10_piece_25 (by decide) ?_
        refine lv_icmp_gt (tgt := 33) hx hb dX10_piece_26 (by decide) (fun q26 => ?_) (fun q26 => ?_)
        · have hf := (br_if hf).1 q26
          exact wX10_piece_E_33 X hf hR (lv_sub hl [] rfl)
        · have hf := (br_if hf).2 q26
          refine lv_iload_n hx hb dX10_piece_29 rfl (lv_at hl 3 rfl) ?_
          refine lv_if_ge (tgt := 35) hx hb dX10_piece_30 (by decide) (fun q30 => ?_) (fun q30 => ?_)
          · have hf := (br_if hf).1 q30
            refine lv_aload_n hx hb dX10_piece_35 rfl (lv_at hl 0 rfl) ?_
            refine lv_iload_n hx hb dX10_piece_36 rfl (lv_at hl 1 rfl) ?_
            refine lv_iload_n hx hb dX10_piece_37 rfl (lv_at hl 2 rfl) ?_
            cases hf
          · have hf := (br_if hf).2 q30
            exact wX10_piece_E_33 X hf hR (lv_sub hl [] rfl)
theorem ctX10_piece_E {l : Launch} {E : Ge} {M : Mem} {x1 : Int32} {x2 : Int32} {x3 : Int32} {x4 : Int32} {r : Int32} (h : fX10_piece_E M x1 x2 x3 x4 = some r) : CT l E yX10_piece cX10_piece 7 (some .int) 7 0 0 [.ref (eB E + 0), .int x1, .int x2, .int x3, .int x4] (some (.int r)) (sh_ false) (nn false) M (sh_ false) (nn false) M := by
  refine met_of (by decide) (Nat.le_of_ble_eq_true rfl) ?_
  intro p e s m args below meth c X _ hR ls hl
  exact wX10_piece_E_0 X h hR hl
def fX10_piece_F_33 (M : Mem) : Option (Int32 × Mem) := none
def fX10_piece_F_98 (s0 : Int32) (M : Mem) : Option (Int32 × Mem) := some (s0, M)
def fX10_piece_F (x1 : Int32) (x2 : Int32) (x3 : Int32) (x4 : Int32) (M : Mem) : Option (Int32 × Mem) := (if (M.1 1 0) = 0 then fX10_piece_F_33 M else (fX10_isPoint M x1 x2).bind (fun q12 => (if q12 = 0 then fX10_piece_F_33 M else (if x4 < 0 then fX10_piece_F_33 M else (if (2 : Int32) < x4 then fX10_piece_F_33 M else (if 0 ≤ x3 then (fX10_fieldFrom_F x1 x2 M).bind (fun q38 => (fX1_cutPieces q38).bind (fun q45 => (if x3 < (q45.1 141 8) then (if x4 = (2 : Int32) then (fX1_sizeOf q45 x3).bind (fun q68 => some (q68, q45)) else (fX1_firstOf q45 x3).bind (fun q75 => (if x4 = 0 then fX10_piece_F_98 ((q75 / (100 : Int32))) q45 else fX10_piece_F_98 ((irm q75 (100 : Int32))) q45))) else some ((-1 : Int32), q45)))) else fX10_piece_F_33 M))))))
set_option maxHeartbeats 4000000 in
set_option maxRecDepth 100000 in
theorem wX10_piece_F_33 {r : Int32} {M1 : Mem} (X : CX E p s m args c meth cX10_piece 7 (some .int) RX10) : ∀ {M : Mem} {H : Heap} {locs : List Loc} {ls : Array Slot}, fX10_piece_F_33 M = some (r, M1) → Rl E (sh_ false) (nn false) s.heap M H locs → lv_has ls 7 [] → W p l e (rm 7 6 45012) s m args below meth c H locs 0 0 (MQ below (qq E (some (.int r)) (sh_ true) (nn true) M1) args s 6 45012 (fr E)) (F0 m 33 ls []) := by
  obtain ⟨hx, hb, hr, hml, hown, hts, hK, hN, hO, hlk, hbs⟩ := id X
  intro M H locs ls hf hR hl
  unfold fX10_piece_F_33 at hf
  refine lv_iconst (v := -1) hx hb dX10_piece_33 (by decide) ?_
  cases hf
set_option maxHeartbeats 4000000 in
set_option maxRecDepth 100000 in
theorem wX10_piece_F_98 {r : Int32} {M1 : Mem} (X : CX E p s m args c meth cX10_piece 7 (some .int) RX10) : ∀ {s0 : Int32} {M : Mem} {H : Heap} {locs : List Loc} {ls : Array Slot}, fX10_piece_F_98 s0 M = some (r, M1) → Rl E (sh_ true) (nn true) s.heap M H locs → lv_has ls 7 [] → W p l e (rm 7 6 45012) s m args below meth c H locs 6 45012 (MQ below (qq E (some (.int r)) (sh_ true) (nn true) M1) args s 6 45012 (fr E)) (F0 m 98 ls [.int s0]) := by
  obtain ⟨hx, hb, hr, hml, hown, hts, hK, hN, hO, hlk, hbs⟩ := id X
  intro s0 M H locs ls hf hR hl
  unfold fX10_piece_F_98 at hf
  cases hf
  exact x_iret hx hb hr hlk hR dX10_piece_98
set_option maxHeartbeats 4000000 in
set_option maxRecDepth 100000 in
theorem wX10_piece_F_0 {r : Int32} {M1 : Mem} (X : CX E p s m args c meth cX10_piece 7 (some .int) RX10) : ∀ {x1 : Int32} {x2 : Int32} {x3 : Int32} {x4 : Int32} {M : Mem} {H : Heap} {locs : List Loc} {ls : Array Slot}, fX10_piece_F x1 x2 x3 x4 M = some (r, M1) → Rl E (sh_ false) (nn false) s.heap M H locs → lv_has ls 7 [(0, .ref (eB E + 0)), (1, .int x1), (2, .int x2), (3, .int x3), (4, .int x4)] → W p l e (rm 7 6 45012) s m args below meth c H locs 0 0 (MQ below (qq E (some (.int r)) (sh_ true) (nn true) M1) args s 6 45012 (fr E)) (F0 m 0 ls []) := by
  obtain ⟨hx, hb, hr, hml, hown, hts, hK, hN, hO, hlk, hbs⟩ := id X
  intro x1 x2 x3 x4 M H locs ls hf hR hl
  unfold fX10_piece_F at hf
  refine lv_aload_n hx hb dX10_piece_0 rfl (lv_at hl 0 rfl) ?_
  refine x_get hx hb hown hts hK hR kX10 (z_0 false) (j := 0) (by decide) fl_X10_12 (v := .ref (eB E + 1)) rfl dX10_piece_1 ?_
  refine x_get hx hb hown hts hK hR kX8 (z_1 false) (j := 0) (by decide) fl_X10_101 (v := .int (M.1 1 0)) rfl dX10_piece_4 ?_
  refine lv_if_eq (tgt := 33) hx hb dX10_piece_7 (by decide) (fun q7 => ?_) (fun q7 => ?_)
  · have hf := (br_if hf).1 q7
    exact wX10_piece_F_33 X hf hR (lv_sub hl [] rfl)
  · have hf := (br_if hf).2 q7
    refine lv_iload_n hx hb dX10_piece_10 rfl (lv_at hl 1 rfl) ?_
    refine lv_iload_n hx hb dX10_piece_11 rfl (lv_at hl 2 rfl) ?_
    obtain ⟨q12, c12, hf⟩ := br_b hf
    refine x_callS (As := [.int x1, .int x2]) (rest := []) (st1 := [.int q12]) X hR (ctX10_isPoint c12) ml_X10_136 st_X10_isPoint in_X10 co_X10_isPoint yo_X10_isPoint (rm_ok (by decide) (by decide)) rfl hl.1 rfl rfl (Nat.le_of_ble_eq_true rfl) dX10_piece_12 ⟨Nat.le_of_ble_eq_true rfl, Nat.le_of_ble_eq_true rfl⟩ (fun H locs hR => ?_)
    refine lv_if_eq (tgt := 33) hx hb dX10_piece_15 (by decide) (fun q15 => ?_) (fun q15 => ?_)
    · have hf := (br_if hf).1 q15
      exact wX10_piece_F_33 X hf hR (lv_sub hl [] rfl)
    · have hf := (br_if hf).2 q15
      refine lv_iload hx hb dX10_piece_18 (lv_at hl 4 rfl) ?_
      refine lv_if_lt (tgt := 33) hx hb dX10_piece_20 (by decide) (fun q20 => ?_) (fun q20 => ?_)
      · have hf := (br_if hf).1 q20
        exact wX10_piece_F_33 X hf hR (lv_sub hl [] rfl)
      · have hf := (br_if hf).2 q20
        refine lv_iload hx hb dX10_piece_23 (lv_at hl 4 rfl) ?_
        refine lv_iconst (v := 2) hx hb dX10_piece_25 (by decide) ?_
        refine lv_icmp_gt (tgt := 33) hx hb dX10_piece_26 (by decide) (fun q26 => ?_) (fun q26 => ?_)
        · have hf := (br_if hf).1 q26
          exact wX10_piece_F_33 X hf hR (lv_sub hl [] rfl)
        · have hf := (br_if hf).2 q26
          refine lv_iload_n hx hb dX10_piece_29 rfl (lv_at hl 3 rfl) ?_
          refine lv_if_ge (tgt := 35) hx hb dX10_piece_30 (by decide) (fun q30 => ?_) (fun q30 => ?_)
          · have hf := (br_if hf).1 q30
            refine lv_aload_n hx hb dX10_piece_35 rfl (lv_at hl 0 rfl) ?_
            refine lv_iload_n hx hb dX10_piece_36 rfl (lv_at hl 1 rfl) ?_
            refine lv_iload_n hx hb dX10_piece_37 rfl (lv_at hl 2 rfl) ?_
            obtain ⟨q38, c38, hf⟩ := br_b hf
            refine x_callV (k := 0) (As := [.int x1, .int x2]) (rest := []) (st1 := [.ref (eB E + 141)]) X hR (ctX10_fieldFrom_F c38) ml_X10_204 im_X10_fieldFrom se_X10_fieldFrom in_X10 co_X10_fieldFrom yo_X10_fieldFrom rfl kX10 (z_0 false) (rm_ok (by decide) (by decide)) rfl hl.1 rfl rfl (Nat.le_of_ble_eq_true rfl) dX10_piece_38 ⟨Nat.le_of_ble_eq_true rfl, Nat.le_of_ble_eq_true rfl⟩ (fun H locs hR => ?_)
            refine lv_astore (lv' := [(5, .ref (eB E + 141)), (0, .ref (eB E + 0)), (1, .int x1), (2, .int x2), (3, .int x3), (4, .int x4)]) hx hb dX10_piece_41 hl (by decide) rfl (fun ls hl => ?_)
            refine lv_aload hx hb dX10_piece_43 (lv_at hl 0 rfl) ?_
            obtain ⟨q45, c45, hf⟩ := br_b hf
            refine x_callV (k := 141) (As := []) (rest := []) (st1 := []) X hR (ctX1_cutPieces c45) ml_X10_213 im_X1_cutPieces se_X1_cutPieces in_X1 co_X1_cutPieces yo_X1_cutPieces rfl kX1 z_141 (rm_ok (by decide) (by decide)) rfl hl.1 rfl rfl (Nat.le_of_ble_eq_true rfl) dX10_piece_45 ⟨Nat.le_of_ble_eq_true rfl, Nat.le_of_ble_eq_true rfl⟩ (fun H locs hR => ?_)
            refine lv_iload_n hx hb dX10_piece_48 rfl (lv_at hl 4 rfl) ?_
            refine lv_aload hx hb dX10_piece_49 (lv_at hl 0 rfl) ?_
            refine x_get hx hb hown hts hK hR kX1 z_141 (j := 8) (by decide) fl_X10_216 (v := .int (q45.1 141 8)) rfl dX10_piece_51 ?_
            refine lv_icmp_lt (tgt := 59) hx hb dX10_piece_54 (by decide) (fun q54 => ?_) (fun q54 => ?_)
            · have hf := (br_if hf).1 q54
              refine lv_iload hx hb dX10_piece_59 (lv_at hl 5 rfl) ?_
              refine lv_iconst (v := 2) hx hb dX10_piece_61 (by decide) ?_
              refine lv_icmp_ne (tgt := 72) hx hb dX10_piece_62 (by decide) (fun q62 => ?_) (fun q62 => ?_)
              · have hf := (br_if hf).2 q62
                refine lv_aload hx hb dX10_piece_72 (lv_at hl 0 rfl) ?_
                refine lv_iload_n hx hb dX10_piece_74 rfl (lv_at hl 4 rfl) ?_
                obtain ⟨q75, c75, hf⟩ := br_b hf
                refine x_callV (k := 141) (As := [.int x3]) (rest := []) (st1 := [.int q75]) X hR (ctX1_firstOf c75) ml_X10_223 im_X1_firstOf se_X1_firstOf in_X1 co_X1_firstOf yo_X1_firstOf rfl kX1 z_141 (rm_ok (by decide) (by decide)) rfl hl.1 rfl rfl (Nat.le_of_ble_eq_true rfl) dX10_piece_75 ⟨Nat.le_of_ble_eq_true rfl, Nat.le_of_ble_eq_true rfl⟩ (fun H locs hR => ?_)
                refine lv_istore (lv' := [(6, .int q75), (5, .ref (eB E + 141)), (0, .ref (eB E + 0)), (1, .int x1), (2, .int x2), (3, .int x3), (4, .int x4)]) hx hb dX10_piece_78 hl (by decide) rfl (fun ls hl => ?_)
                refine lv_iload hx hb dX10_piece_80 (lv_at hl 6 rfl) ?_
                refine lv_if_ne (tgt := 93) hx hb dX10_piece_82 (by decide) (fun q82 => ?_) (fun q82 => ?_)
                · have hf := (br_if hf).2 q82
                  refine lv_iload hx hb dX10_piece_93 (lv_at hl 0 rfl) ?_
                  refine lv_bipush (v := 100) hx hb dX10_piece_95 (by decide) ?_
                  refine lv_irem hx hb dX10_piece_97 (by decide) ?_
                  refine W.eq (g2 := F0 m 98 ls [.int (irm q75 (100 : Int32))]) rfl ?_
                  exact wX10_piece_F_98 X hf hR (lv_sub hl [] rfl)
                · have hf := (br_if hf).1 q82
                  refine lv_iload hx hb dX10_piece_85 (lv_at hl 0 rfl) ?_
                  refine lv_bipush (v := 100) hx hb dX10_piece_87 (by decide) ?_
                  refine lv_idiv hx hb dX10_piece_89 (by decide) ?_
                  refine lv_goto (tgt := 98) hx hb dX10_piece_90 (by decide) ?_
                  exact wX10_piece_F_98 X hf hR (lv_sub hl [] rfl)
              · have hf := (br_if hf).1 q62
                refine lv_aload hx hb dX10_piece_65 (lv_at hl 0 rfl) ?_
                refine lv_iload_n hx hb dX10_piece_67 rfl (lv_at hl 4 rfl) ?_
                obtain ⟨q68, c68, hf⟩ := br_b hf
                refine x_callV (k := 141) (As := [.int x3]) (rest := []) (st1 := [.int q68]) X hR (ctX1_sizeOf c68) ml_X10_219 im_X1_sizeOf se_X1_sizeOf in_X1 co_X1_sizeOf yo_X1_sizeOf rfl kX1 z_141 (rm_ok (by decide) (by decide)) rfl hl.1 rfl rfl (Nat.le_of_ble_eq_true rfl) dX10_piece_68 ⟨Nat.le_of_ble_eq_true rfl, Nat.le_of_ble_eq_true rfl⟩ (fun H locs hR => ?_)
                cases hf
                exact x_iret hx hb hr hlk hR dX10_piece_71
            · have hf := (br_if hf).2 q54
              refine lv_iconst (v := -1) hx hb dX10_piece_57 (by decide) ?_
              cases hf
              exact x_iret hx hb hr hlk hR dX10_piece_58
          · have hf := (br_if hf).2 q30
            exact wX10_piece_F_33 X hf hR (lv_sub hl [] rfl)
theorem ctX10_piece_F {l : Launch} {E : Ge} {M : Mem} {x1 : Int32} {x2 : Int32} {x3 : Int32} {x4 : Int32} {r : Int32} {M1 : Mem} (h : fX10_piece_F x1 x2 x3 x4 M = some (r, M1)) : CT l E yX10_piece cX10_piece 7 (some .int) 7 6 45012 [.ref (eB E + 0), .int x1, .int x2, .int x3, .int x4] (some (.int r)) (sh_ false) (nn false) M (sh_ true) (nn true) M1 := by
  refine met_of (by decide) (Nat.le_of_ble_eq_true rfl) ?_
  intro p e s m args below meth c X _ hR ls hl
  exact wX10_piece_F_0 X h hR hl
def fX10_most_T_18 (M : Mem) : Option (Int32 × Mem) := some ((-1 : Int32), M)
def fX10_most_T (x1 : Int32) (x2 : Int32) (M : Mem) : Option (Int32 × Mem) := (if (M.1 1 0) = 0 then fX10_most_T_18 M else (fX10_isPoint M x1 x2).bind (fun q12 => (if q12 = 0 then fX10_most_T_18 M else (fX10_fieldFrom_T x1 x2 M).bind (fun q23 => some ((q23.1 141 7), q23)))))
set_option maxHeartbeats 4000000 in
set_option maxRecDepth 100000 in
theorem wX10_most_T_18 {r : Int32} {M1 : Mem} (X : CX E p s m args c meth cX10_most 3 (some .int) RX10) : ∀ {M : Mem} {H : Heap} {locs : List Loc} {ls : Array Slot}, fX10_most_T_18 M = some (r, M1) → Rl E (sh_ true) (nn true) s.heap M H locs → lv_has ls 3 [] → W p l e (rm 7 0 0) s m args below meth c H locs 0 0 (MQ below (qq E (some (.int r)) (sh_ true) (nn true) M1) args s 0 0 (fr E)) (F0 m 18 ls []) := by
  obtain ⟨hx, hb, hr, hml, hown, hts, hK, hN, hO, hlk, hbs⟩ := id X
  intro M H locs ls hf hR hl
  unfold fX10_most_T_18 at hf
  refine lv_iconst (v := -1) hx hb dX10_most_18 (by decide) ?_
  cases hf
  exact x_iret hx hb hr hlk hR dX10_most_19
set_option maxHeartbeats 4000000 in
set_option maxRecDepth 100000 in
theorem wX10_most_T_0 {r : Int32} {M1 : Mem} (X : CX E p s m args c meth cX10_most 3 (some .int) RX10) : ∀ {x1 : Int32} {x2 : Int32} {M : Mem} {H : Heap} {locs : List Loc} {ls : Array Slot}, fX10_most_T x1 x2 M = some (r, M1) → Rl E (sh_ true) (nn true) s.heap M H locs → lv_has ls 3 [(0, .ref (eB E + 0)), (1, .int x1), (2, .int x2)] → W p l e (rm 7 0 0) s m args below meth c H locs 0 0 (MQ below (qq E (some (.int r)) (sh_ true) (nn true) M1) args s 0 0 (fr E)) (F0 m 0 ls []) := by
  obtain ⟨hx, hb, hr, hml, hown, hts, hK, hN, hO, hlk, hbs⟩ := id X
  intro x1 x2 M H locs ls hf hR hl
  unfold fX10_most_T at hf
  refine lv_aload_n hx hb dX10_most_0 rfl (lv_at hl 0 rfl) ?_
  refine x_get hx hb hown hts hK hR kX10 (z_0 true) (j := 0) (by decide) fl_X10_12 (v := .ref (eB E + 1)) rfl dX10_most_1 ?_
  refine x_get hx hb hown hts hK hR kX8 (z_1 true) (j := 0) (by decide) fl_X10_101 (v := .int (M.1 1 0)) rfl dX10_most_4 ?_
  refine lv_if_eq (tgt := 18) hx hb dX10_most_7 (by decide) (fun q7 => ?_) (fun q7 => ?_)
  · have hf := (br_if hf).1 q7
    exact wX10_most_T_18 X hf hR (lv_sub hl [] rfl)
  · have hf := (br_if hf).2 q7
    refine lv_iload_n hx hb dX10_most_10 rfl (lv_at hl 1 rfl) ?_
    refine lv_iload_n hx hb dX10_most_11 rfl (lv_at hl 2 rfl) ?_
    obtain ⟨q12, c12, hf⟩ := br_b hf
    refine x_callS (As := [.int x1, .int x2]) (rest := []) (st1 := [.int q12]) X hR (ctX10_isPoint c12) ml_X10_136 st_X10_isPoint in_X10 co_X10_isPoint yo_X10_isPoint (rm_ok (by decide) (by decide)) rfl hl.1 rfl rfl (Nat.le_of_ble_eq_true rfl) dX10_most_12 ⟨Nat.zero_le _, Nat.zero_le _⟩ (fun H locs hR => ?_)
    refine lv_if_ne (tgt := 20) hx hb dX10_most_15 (by decide) (fun q15 => ?_) (fun q15 => ?_)
    · have hf := (br_if hf).2 q15
      refine lv_aload_n hx hb dX10_most_20 rfl (lv_at hl 0 rfl) ?_
      refine lv_iload_n hx hb dX10_most_21 rfl (lv_at hl 1 rfl) ?_
      refine lv_iload_n hx hb dX10_most_22 rfl (lv_at hl 2 rfl) ?_
      obtain ⟨q23, c23, hf⟩ := br_b hf
      refine x_callV (k := 0) (As := [.int x1, .int x2]) (rest := []) (st1 := [.ref (eB E + 141)]) X hR (ctX10_fieldFrom_T c23) ml_X10_204 im_X10_fieldFrom se_X10_fieldFrom in_X10 co_X10_fieldFrom yo_X10_fieldFrom rfl kX10 (z_0 true) (rm_ok (by decide) (by decide)) rfl hl.1 rfl rfl (Nat.le_of_ble_eq_true rfl) dX10_most_23 ⟨Nat.zero_le _, Nat.zero_le _⟩ (fun H locs hR => ?_)
      refine x_get hx hb hown hts hK hR kX1 z_141 (j := 7) (by decide) fl_X10_265 (v := .int (q23.1 141 7)) rfl dX10_most_26 ?_
      cases hf
      exact x_iret hx hb hr hlk hR dX10_most_29
    · have hf := (br_if hf).1 q15
      exact wX10_most_T_18 X hf hR (lv_sub hl [] rfl)
theorem ctX10_most_T {l : Launch} {E : Ge} {M : Mem} {x1 : Int32} {x2 : Int32} {r : Int32} {M1 : Mem} (h : fX10_most_T x1 x2 M = some (r, M1)) : CT l E yX10_most cX10_most 3 (some .int) 7 0 0 [.ref (eB E + 0), .int x1, .int x2] (some (.int r)) (sh_ true) (nn true) M (sh_ true) (nn true) M1 := by
  refine met_of (by decide) (Nat.le_of_ble_eq_true rfl) ?_
  intro p e s m args below meth c X _ hR ls hl
  exact wX10_most_T_0 X h hR hl
def fX10_most_E_18 (M : Mem) : Option Int32 := some (-1 : Int32)
def fX10_most_E (M : Mem) (x1 : Int32) (x2 : Int32) : Option Int32 := (if (M.1 1 0) = 0 then fX10_most_E_18 M else (fX10_isPoint M x1 x2).bind (fun q12 => (if q12 = 0 then fX10_most_E_18 M else none)))
set_option maxHeartbeats 4000000 in
set_option maxRecDepth 100000 in
theorem wX10_most_E_18 {r : Int32} {M : Mem} (X : CX E p s m args c meth cX10_most 3 (some .int) RX10) : ∀ {H : Heap} {locs : List Loc} {ls : Array Slot}, fX10_most_E_18 M = some r → Rl E (sh_ false) (nn false) s.heap M H locs → lv_has ls 3 [] → W p l e (rm 7 0 0) s m args below meth c H locs 0 0 (MQ below (qq E (some (.int r)) (sh_ false) (nn false) M) args s 0 0 (fr E)) (F0 m 18 ls []) := by
  obtain ⟨hx, hb, hr, hml, hown, hts, hK, hN, hO, hlk, hbs⟩ := id X
  intro H locs ls hf hR hl
  unfold fX10_most_E_18 at hf
  refine lv_iconst (v := -1) hx hb dX10_most_18 (by decide) ?_
  cases hf
  exact x_iret hx hb hr hlk hR dX10_most_19
set_option maxHeartbeats 4000000 in
set_option maxRecDepth 100000 in
theorem wX10_most_E_0 {r : Int32} {M : Mem} (X : CX E p s m args c meth cX10_most 3 (some .int) RX10) : ∀ {x1 : Int32} {x2 : Int32} {H : Heap} {locs : List Loc} {ls : Array Slot}, fX10_most_E M x1 x2 = some r → Rl E (sh_ false) (nn false) s.heap M H locs → lv_has ls 3 [(0, .ref (eB E + 0)), (1, .int x1), (2, .int x2)] → W p l e (rm 7 0 0) s m args below meth c H locs 0 0 (MQ below (qq E (some (.int r)) (sh_ false) (nn false) M) args s 0 0 (fr E)) (F0 m 0 ls []) := by
  obtain ⟨hx, hb, hr, hml, hown, hts, hK, hN, hO, hlk, hbs⟩ := id X
  intro x1 x2 H locs ls hf hR hl
  unfold fX10_most_E at hf
  refine lv_aload_n hx hb dX10_most_0 rfl (lv_at hl 0 rfl) ?_
  refine x_get hx hb hown hts hK hR kX10 (z_0 false) (j := 0) (by decide) fl_X10_12 (v := .ref (eB E + 1)) rfl dX10_most_1 ?_
  refine x_get hx hb hown hts hK hR kX8 (z_1 false) (j := 0) (by decide) fl_X10_101 (v := .int (M.1 1 0)) rfl dX10_most_4 ?_
  refine lv_if_eq (tgt := 18) hx hb dX10_most_7 (by decide) (fun q7 => ?_) (fun q7 => ?_)
  · have hf := (br_if hf).1 q7
    exact wX10_most_E_18 X hf hR (lv_sub hl [] rfl)
  · have hf := (br_if hf).2 q7
    refine lv_iload_n hx hb dX10_most_10 rfl (lv_at hl 1 rfl) ?_
    refine lv_iload_n hx hb dX10_most_11 rfl (lv_at hl 2 rfl) ?_
    obtain ⟨q12, c12, hf⟩ := br_b hf
    refine x_callS (As := [.int x1, .int x2]) (rest := []) (st1 := [.int q12]) X hR (ctX10_isPoint c12) ml_X10_136 st_X10_isPoint in_X10 co_X10_isPoint yo_X10_isPoint (rm_ok (by decide) (by decide)) rfl hl.1 rfl rfl (Nat.le_of_ble_eq_true rfl) dX10_most_12 ⟨Nat.zero_le _, Nat.zero_le _⟩ (fun H locs hR => ?_)
    refine lv_if_ne (tgt := 20) hx hb dX10_most_15 (by decide) (fun q15 => ?_) (fun q15 => ?_)
    · have hf := (br_if hf).2 q15
      refine lv_aload_n hx hb dX10_most_20 rfl (lv_at hl 0 rfl) ?_
      refine lv_iload_n hx hb dX10_most_21 rfl (lv_at hl 1 rfl) ?_
      refine lv_iload_n hx hb dX10_most_22 rfl (lv_at hl 2 rfl) ?_
      cases hf
    · have hf := (br_if hf).1 q15
      exact wX10_most_E_18 X hf hR (lv_sub hl [] rfl)
theorem ctX10_most_E {l : Launch} {E : Ge} {M : Mem} {x1 : Int32} {x2 : Int32} {r : Int32} (h : fX10_most_E M x1 x2 = some r) : CT l E yX10_most cX10_most 3 (some .int) 7 0 0 [.ref (eB E + 0), .int x1, .int x2] (some (.int r)) (sh_ false) (nn false) M (sh_ false) (nn false) M := by
  refine met_of (by decide) (Nat.le_of_ble_eq_true rfl) ?_
  intro p e s m args below meth c X _ hR ls hl
  exact wX10_most_E_0 X h hR hl
def fX10_most_F_18 (M : Mem) : Option (Int32 × Mem) := none
def fX10_most_F (x1 : Int32) (x2 : Int32) (M : Mem) : Option (Int32 × Mem) := (if (M.1 1 0) = 0 then fX10_most_F_18 M else (fX10_isPoint M x1 x2).bind (fun q12 => (if q12 = 0 then fX10_most_F_18 M else (fX10_fieldFrom_F x1 x2 M).bind (fun q23 => some ((q23.1 141 7), q23)))))
set_option maxHeartbeats 4000000 in
set_option maxRecDepth 100000 in
theorem wX10_most_F_18 {r : Int32} {M1 : Mem} (X : CX E p s m args c meth cX10_most 3 (some .int) RX10) : ∀ {M : Mem} {H : Heap} {locs : List Loc} {ls : Array Slot}, fX10_most_F_18 M = some (r, M1) → Rl E (sh_ false) (nn false) s.heap M H locs → lv_has ls 3 [] → W p l e (rm 7 6 45012) s m args below meth c H locs 0 0 (MQ below (qq E (some (.int r)) (sh_ true) (nn true) M1) args s 6 45012 (fr E)) (F0 m 18 ls []) := by
  obtain ⟨hx, hb, hr, hml, hown, hts, hK, hN, hO, hlk, hbs⟩ := id X
  intro M H locs ls hf hR hl
  unfold fX10_most_F_18 at hf
  refine lv_iconst (v := -1) hx hb dX10_most_18 (by decide) ?_
  cases hf
set_option maxHeartbeats 4000000 in
set_option maxRecDepth 100000 in
theorem wX10_most_F_0 {r : Int32} {M1 : Mem} (X : CX E p s m args c meth cX10_most 3 (some .int) RX10) : ∀ {x1 : Int32} {x2 : Int32} {M : Mem} {H : Heap} {locs : List Loc} {ls : Array Slot}, fX10_most_F x1 x2 M = some (r, M1) → Rl E (sh_ false) (nn false) s.heap M H locs → lv_has ls 3 [(0, .ref (eB E + 0)), (1, .int x1), (2, .int x2)] → W p l e (rm 7 6 45012) s m args below meth c H locs 0 0 (MQ below (qq E (some (.int r)) (sh_ true) (nn true) M1) args s 6 45012 (fr E)) (F0 m 0 ls []) := by
  obtain ⟨hx, hb, hr, hml, hown, hts, hK, hN, hO, hlk, hbs⟩ := id X
  intro x1 x2 M H locs ls hf hR hl
  unfold fX10_most_F at hf
  refine lv_aload_n hx hb dX10_most_0 rfl (lv_at hl 0 rfl) ?_
  refine x_get hx hb hown hts hK hR kX10 (z_0 false) (j := 0) (by decide) fl_X10_12 (v := .ref (eB E + 1)) rfl dX10_most_1 ?_
  refine x_get hx hb hown hts hK hR kX8 (z_1 false) (j := 0) (by decide) fl_X10_101 (v := .int (M.1 1 0)) rfl dX10_most_4 ?_
  refine lv_if_eq (tgt := 18) hx hb dX10_most_7 (by decide) (fun q7 => ?_) (fun q7 => ?_)
  · have hf := (br_if hf).1 q7
    exact wX10_most_F_18 X hf hR (lv_sub hl [] rfl)
  · have hf := (br_if hf).2 q7
    refine lv_iload_n hx hb dX10_most_10 rfl (lv_at hl 1 rfl) ?_
    refine lv_iload_n hx hb dX10_most_11 rfl (lv_at hl 2 rfl) ?_
    obtain ⟨q12, c12, hf⟩ := br_b hf
    refine x_callS (As := [.int x1, .int x2]) (rest := []) (st1 := [.int q12]) X hR (ctX10_isPoint c12) ml_X10_136 st_X10_isPoint in_X10 co_X10_isPoint yo_X10_isPoint (rm_ok (by decide) (by decide)) rfl hl.1 rfl rfl (Nat.le_of_ble_eq_true rfl) dX10_most_12 ⟨Nat.le_of_ble_eq_true rfl, Nat.le_of_ble_eq_true rfl⟩ (fun H locs hR => ?_)
    refine lv_if_ne (tgt := 20) hx hb dX10_most_15 (by decide) (fun q15 => ?_) (fun q15 => ?_)
    · have hf := (br_if hf).2 q15
      refine lv_aload_n hx hb dX10_most_20 rfl (lv_at hl 0 rfl) ?_
      refine lv_iload_n hx hb dX10_most_21 rfl (lv_at hl 1 rfl) ?_
      refine lv_iload_n hx hb dX10_most_22 rfl (lv_at hl 2 rfl) ?_
      obtain ⟨q23, c23, hf⟩ := br_b hf
      refine x_callV (k := 0) (As := [.int x1, .int x2]) (rest := []) (st1 := [.ref (eB E + 141)]) X hR (ctX10_fieldFrom_F c23) ml_X10_204 im_X10_fieldFrom se_X10_fieldFrom in_X10 co_X10_fieldFrom yo_X10_fieldFrom rfl kX10 (z_0 false) (rm_ok (by decide) (by decide)) rfl hl.1 rfl rfl (Nat.le_of_ble_eq_true rfl) dX10_most_23 ⟨Nat.le_of_ble_eq_true rfl, Nat.le_of_ble_eq_true rfl⟩ (fun H locs hR => ?_)
      refine x_get hx hb hown hts hK hR kX1 z_141 (j := 7) (by decide) fl_X10_265 (v := .int (q23.1 141 7)) rfl dX10_most_26 ?_
      cases hf
      exact x_iret hx hb hr hlk hR dX10_most_29
    · have hf := (br_if hf).1 q15
      exact wX10_most_F_18 X hf hR (lv_sub hl [] rfl)
theorem ctX10_most_F {l : Launch} {E : Ge} {M : Mem} {x1 : Int32} {x2 : Int32} {r : Int32} {M1 : Mem} (h : fX10_most_F x1 x2 M = some (r, M1)) : CT l E yX10_most cX10_most 3 (some .int) 7 6 45012 [.ref (eB E + 0), .int x1, .int x2] (some (.int r)) (sh_ false) (nn false) M (sh_ true) (nn true) M1 := by
  refine met_of (by decide) (Nat.le_of_ble_eq_true rfl) ?_
  intro p e s m args below meth c X _ hR ls hl
  exact wX10_most_F_0 X h hR hl
def fX10_between_T_22 (M : Mem) : Option (Int32 × Mem) := some ((-1 : Int32), M)
def fX10_between_T (x1 : Int32) (x2 : Int32) (M : Mem) : Option (Int32 × Mem) := (fX8_hasPlace_t M x1).bind (fun q5 => (if q5 = 0 then fX10_between_T_22 M else (fX8_hasPlace_t M x2).bind (fun q16 => (if q16 = 0 then fX10_between_T_22 M else (if inb x1 20 = true then (if inb x1 20 = true then (fX10_fieldFrom_T (M.1 8 (ix x1)) (M.1 9 (ix x1)) M).bind (fun q43 => (if inb x2 20 = true then (if inb x2 20 = true then (fX1_firstBeatenBy (q43.1 8 (ix x2)) (q43.1 9 (ix x2)) q43).bind (fun q66 => some (q66.1, q66.2)) else none) else none)) else none) else none)))))
set_option maxHeartbeats 4000000 in
set_option maxRecDepth 100000 in
theorem wX10_between_T_22 {r : Int32} {M1 : Mem} (X : CX E p s m args c meth cX10_between 4 (some .int) RX10) : ∀ {M : Mem} {H : Heap} {locs : List Loc} {ls : Array Slot}, fX10_between_T_22 M = some (r, M1) → Rl E (sh_ true) (nn true) s.heap M H locs → lv_has ls 4 [] → W p l e (rm 7 0 0) s m args below meth c H locs 0 0 (MQ below (qq E (some (.int r)) (sh_ true) (nn true) M1) args s 0 0 (fr E)) (F0 m 22 ls []) := by
  obtain ⟨hx, hb, hr, hml, hown, hts, hK, hN, hO, hlk, hbs⟩ := id X
  intro M H locs ls hf hR hl
  unfold fX10_between_T_22 at hf
  refine lv_iconst (v := -1) hx hb dX10_between_22 (by decide) ?_
  cases hf
  exact x_iret hx hb hr hlk hR dX10_between_23
set_option maxHeartbeats 4000000 in
set_option maxRecDepth 100000 in
theorem wX10_between_T_0 {r : Int32} {M1 : Mem} (X : CX E p s m args c meth cX10_between 4 (some .int) RX10) : ∀ {x1 : Int32} {x2 : Int32} {M : Mem} {H : Heap} {locs : List Loc} {ls : Array Slot}, fX10_between_T x1 x2 M = some (r, M1) → Rl E (sh_ true) (nn true) s.heap M H locs → lv_has ls 4 [(0, .ref (eB E + 0)), (1, .int x1), (2, .int x2)] → W p l e (rm 7 0 0) s m args below meth c H locs 0 0 (MQ below (qq E (some (.int r)) (sh_ true) (nn true) M1) args s 0 0 (fr E)) (F0 m 0 ls []) := by
  obtain ⟨hx, hb, hr, hml, hown, hts, hK, hN, hO, hlk, hbs⟩ := id X
  intro x1 x2 M H locs ls hf hR hl
  unfold fX10_between_T at hf
  refine lv_aload_n hx hb dX10_between_0 rfl (lv_at hl 0 rfl) ?_
  refine x_get hx hb hown hts hK hR kX10 (z_0 true) (j := 0) (by decide) fl_X10_12 (v := .ref (eB E + 1)) rfl dX10_between_1 ?_
  refine lv_iload_n hx hb dX10_between_4 rfl (lv_at hl 1 rfl) ?_
  obtain ⟨q5, c5, hf⟩ := br_b hf
  refine x_callV (k := 1) (As := [.int x1]) (rest := []) (st1 := [.int q5]) X hR (ctX8_hasPlace_t c5) ml_X10_127 im_X8_hasPlace se_X8_hasPlace in_X8 co_X8_hasPlace yo_X8_hasPlace rfl kX8 (z_1 true) (rm_ok (by decide) (by decide)) rfl hl.1 rfl rfl (Nat.le_of_ble_eq_true rfl) dX10_between_5 ⟨Nat.zero_le _, Nat.zero_le _⟩ (fun H locs hR => ?_)
  refine lv_if_eq (tgt := 22) hx hb dX10_between_8 (by decide) (fun q8 => ?_) (fun q8 => ?_)
  · have hf := (br_if hf).1 q8
    exact wX10_between_T_22 X hf hR (lv_sub hl [] rfl)
  · have hf := (br_if hf).2 q8
    refine lv_aload_n hx hb dX10_between_11 rfl (lv_at hl 0 rfl) ?_
    refine x_get hx hb hown hts hK hR kX10 (z_0 true) (j := 0) (by decide) fl_X10_12 (v := .ref (eB E + 1)) rfl dX10_between_12 ?_
    refine lv_iload_n hx hb dX10_between_15 rfl (lv_at hl 2 rfl) ?_
    obtain ⟨q16, c16, hf⟩ := br_b hf
    refine x_callV (k := 1) (As := [.int x2]) (rest := []) (st1 := [.int q16]) X hR (ctX8_hasPlace_t c16) ml_X10_127 im_X8_hasPlace se_X8_hasPlace in_X8 co_X8_hasPlace yo_X8_hasPlace rfl kX8 (z_1 true) (rm_ok (by decide) (by decide)) rfl hl.1 rfl rfl (Nat.le_of_ble_eq_true rfl) dX10_between_16 ⟨Nat.zero_le _, Nat.zero_le _⟩ (fun H locs hR => ?_)
    refine lv_if_ne (tgt := 24) hx hb dX10_between_19 (by decide) (fun q19 => ?_) (fun q19 => ?_)
    · have hf := (br_if hf).2 q19
      refine lv_aload_n hx hb dX10_between_24 rfl (lv_at hl 0 rfl) ?_
      refine lv_aload_n hx hb dX10_between_25 rfl (lv_at hl 0 rfl) ?_
      refine x_get hx hb hown hts hK hR kX10 (z_0 true) (j := 0) (by decide) fl_X10_12 (v := .ref (eB E + 1)) rfl dX10_between_26 ?_
      refine x_get hx hb hown hts hK hR kX8 (z_1 true) (j := 9) (by decide) fl_X10_130 (v := .ref (eB E + 8)) rfl dX10_between_29 ?_
      refine lv_iload_n hx hb dX10_between_32 rfl (lv_at hl 1 rfl) ?_
      obtain ⟨g33, hf⟩ := br_g hf
      refine x_iald hx hb hK hR (z_8 true) g33 dX10_between_33 ?_
      refine lv_aload_n hx hb dX10_between_34 rfl (lv_at hl 0 rfl) ?_
      refine x_get hx hb hown hts hK hR kX10 (z_0 true) (j := 0) (by decide) fl_X10_12 (v := .ref (eB E + 1)) rfl dX10_between_35 ?_
      refine x_get hx hb hown hts hK hR kX8 (z_1 true) (j := 10) (by decide) fl_X10_133 (v := .ref (eB E + 9)) rfl dX10_between_38 ?_
      refine lv_iload_n hx hb dX10_between_41 rfl (lv_at hl 1 rfl) ?_
      obtain ⟨g42, hf⟩ := br_g hf
      refine x_iald hx hb hK hR (z_9 true) g42 dX10_between_42 ?_
      obtain ⟨q43, c43, hf⟩ := br_b hf
      refine x_callV (k := 0) (As := [.int (M.1 8 (ix x1)), .int (M.1 9 (ix x1))]) (rest := []) (st1 := [.ref (eB E + 141)]) X hR (ctX10_fieldFrom_T c43) ml_X10_204 im_X10_fieldFrom se_X10_fieldFrom in_X10 co_X10_fieldFrom yo_X10_fieldFrom rfl kX10 (z_0 true) (rm_ok (by decide) (by decide)) rfl hl.1 rfl rfl (Nat.le_of_ble_eq_true rfl) dX10_between_43 ⟨Nat.zero_le _, Nat.zero_le _⟩ (fun H locs hR => ?_)
      refine lv_astore_n (lv' := [(3, .ref (eB E + 141)), (0, .ref (eB E + 0)), (1, .int x1), (2, .int x2)]) hx hb dX10_between_46 rfl hl (by decide) rfl (fun ls hl => ?_)
      refine lv_aload_n hx hb dX10_between_47 rfl (lv_at hl 0 rfl) ?_
      refine lv_aload_n hx hb dX10_between_48 rfl (lv_at hl 1 rfl) ?_
      refine x_get hx hb hown hts hK hR kX10 (z_0 true) (j := 0) (by decide) fl_X10_12 (v := .ref (eB E + 1)) rfl dX10_between_49 ?_
      refine x_get hx hb hown hts hK hR kX8 (z_1 true) (j := 9) (by decide) fl_X10_130 (v := .ref (eB E + 8)) rfl dX10_between_52 ?_
      refine lv_iload_n hx hb dX10_between_55 rfl (lv_at hl 3 rfl) ?_
      obtain ⟨g56, hf⟩ := br_g hf
      refine x_iald hx hb hK hR (z_8 true) g56 dX10_between_56 ?_
      refine lv_aload_n hx hb dX10_between_57 rfl (lv_at hl 1 rfl) ?_
      refine x_get hx hb hown hts hK hR kX10 (z_0 true) (j := 0) (by decide) fl_X10_12 (v := .ref (eB E + 1)) rfl dX10_between_58 ?_
      refine x_get hx hb hown hts hK hR kX8 (z_1 true) (j := 10) (by decide) fl_X10_133 (v := .ref (eB E + 9)) rfl dX10_between_61 ?_
      refine lv_iload_n hx hb dX10_between_64 rfl (lv_at hl 3 rfl) ?_
      obtain ⟨g65, hf⟩ := br_g hf
      refine x_iald hx hb hK hR (z_9 true) g65 dX10_between_65 ?_
      obtain ⟨q66, c66, hf⟩ := br_b hf
      refine x_callV (k := 141) (As := [.int (q43.1 8 (ix x2)), .int (q43.1 9 (ix x2))]) (rest := []) (st1 := [.int q66.1]) X hR (ctX1_firstBeatenBy c66) ml_X10_241 im_X1_firstBeatenBy se_X1_firstBeatenBy in_X1 co_X1_firstBeatenBy yo_X1_firstBeatenBy rfl kX1 z_141 (rm_ok (by decide) (by decide)) rfl hl.1 rfl rfl (Nat.le_of_ble_eq_true rfl) dX10_between_66 ⟨Nat.zero_le _, Nat.zero_le _⟩ (fun H locs hR => ?_)
      cases hf
      exact x_iret hx hb hr hlk hR dX10_between_69
    · have hf := (br_if hf).1 q19
      exact wX10_between_T_22 X hf hR (lv_sub hl [] rfl)
theorem ctX10_between_T {l : Launch} {E : Ge} {M : Mem} {x1 : Int32} {x2 : Int32} {r : Int32} {M1 : Mem} (h : fX10_between_T x1 x2 M = some (r, M1)) : CT l E yX10_between cX10_between 4 (some .int) 7 0 0 [.ref (eB E + 0), .int x1, .int x2] (some (.int r)) (sh_ true) (nn true) M (sh_ true) (nn true) M1 := by
  refine met_of (by decide) (Nat.le_of_ble_eq_true rfl) ?_
  intro p e s m args below meth c X _ hR ls hl
  exact wX10_between_T_0 X h hR hl
def fX10_between_E_22 (M : Mem) : Option Int32 := some (-1 : Int32)
def fX10_between_E (M : Mem) (x1 : Int32) (x2 : Int32) : Option Int32 := (fX8_hasPlace_t M x1).bind (fun q5 => (if q5 = 0 then fX10_between_E_22 M else (fX8_hasPlace_t M x2).bind (fun q16 => (if q16 = 0 then fX10_between_E_22 M else (if inb x1 20 = true then (if inb x1 20 = true then none else none) else none)))))
set_option maxHeartbeats 4000000 in
set_option maxRecDepth 100000 in
theorem wX10_between_E_22 {r : Int32} {M : Mem} (X : CX E p s m args c meth cX10_between 4 (some .int) RX10) : ∀ {H : Heap} {locs : List Loc} {ls : Array Slot}, fX10_between_E_22 M = some r → Rl E (sh_ false) (nn false) s.heap M H locs → lv_has ls 4 [] → W p l e (rm 7 0 0) s m args below meth c H locs 0 0 (MQ below (qq E (some (.int r)) (sh_ false) (nn false) M) args s 0 0 (fr E)) (F0 m 22 ls []) := by
  obtain ⟨hx, hb, hr, hml, hown, hts, hK, hN, hO, hlk, hbs⟩ := id X
  intro H locs ls hf hR hl
  unfold fX10_between_E_22 at hf
  refine lv_iconst (v := -1) hx hb dX10_between_22 (by decide) ?_
  cases hf
  exact x_iret hx hb hr hlk hR dX10_between_23
set_option maxHeartbeats 4000000 in
set_option maxRecDepth 100000 in
theorem wX10_between_E_0 {r : Int32} {M : Mem} (X : CX E p s m args c meth cX10_between 4 (some .int) RX10) : ∀ {x1 : Int32} {x2 : Int32} {H : Heap} {locs : List Loc} {ls : Array Slot}, fX10_between_E M x1 x2 = some r → Rl E (sh_ false) (nn false) s.heap M H locs → lv_has ls 4 [(0, .ref (eB E + 0)), (1, .int x1), (2, .int x2)] → W p l e (rm 7 0 0) s m args below meth c H locs 0 0 (MQ below (qq E (some (.int r)) (sh_ false) (nn false) M) args s 0 0 (fr E)) (F0 m 0 ls []) := by
  obtain ⟨hx, hb, hr, hml, hown, hts, hK, hN, hO, hlk, hbs⟩ := id X
  intro x1 x2 H locs ls hf hR hl
  unfold fX10_between_E at hf
  refine lv_aload_n hx hb dX10_between_0 rfl (lv_at hl 0 rfl) ?_
  refine x_get hx hb hown hts hK hR kX10 (z_0 false) (j := 0) (by decide) fl_X10_12 (v := .ref (eB E + 1)) rfl dX10_between_1 ?_
  refine lv_iload_n hx hb dX10_between_4 rfl (lv_at hl 1 rfl) ?_
  obtain ⟨q5, c5, hf⟩ := br_b hf
  refine x_callV (k := 1) (As := [.int x1]) (rest := []) (st1 := [.int q5]) X hR (ctX8_hasPlace_t c5) ml_X10_127 im_X8_hasPlace se_X8_hasPlace in_X8 co_X8_hasPlace yo_X8_hasPlace rfl kX8 (z_1 false) (rm_ok (by decide) (by decide)) rfl hl.1 rfl rfl (Nat.le_of_ble_eq_true rfl) dX10_between_5 ⟨Nat.zero_le _, Nat.zero_le _⟩ (fun H locs hR => ?_)
  refine lv_if_eq (tgt := 22) hx hb dX10_between_8 (by decide) (fun q8 => ?_) (fun q8 => ?_)
  · have hf := (br_if hf).1 q8
    exact wX10_between_E_22 X hf hR (lv_sub hl [] rfl)
  · have hf := (br_if hf).2 q8
    refine lv_aload_n hx hb dX10_between_11 rfl (lv_at hl 0 rfl) ?_
    refine x_get hx hb hown hts hK hR kX10 (z_0 false) (j := 0) (by decide) fl_X10_12 (v := .ref (eB E + 1)) rfl dX10_between_12 ?_
    refine lv_iload_n hx hb dX10_between_15 rfl (lv_at hl 2 rfl) ?_
    obtain ⟨q16, c16, hf⟩ := br_b hf
    refine x_callV (k := 1) (As := [.int x2]) (rest := []) (st1 := [.int q16]) X hR (ctX8_hasPlace_t c16) ml_X10_127 im_X8_hasPlace se_X8_hasPlace in_X8 co_X8_hasPlace yo_X8_hasPlace rfl kX8 (z_1 false) (rm_ok (by decide) (by decide)) rfl hl.1 rfl rfl (Nat.le_of_ble_eq_true rfl) dX10_between_16 ⟨Nat.zero_le _, Nat.zero_le _⟩ (fun H locs hR => ?_)
    refine lv_if_ne (tgt := 24) hx hb dX10_between_19 (by decide) (fun q19 => ?_) (fun q19 => ?_)
    · have hf := (br_if hf).2 q19
      refine lv_aload_n hx hb dX10_between_24 rfl (lv_at hl 0 rfl) ?_
      refine lv_aload_n hx hb dX10_between_25 rfl (lv_at hl 0 rfl) ?_
      refine x_get hx hb hown hts hK hR kX10 (z_0 false) (j := 0) (by decide) fl_X10_12 (v := .ref (eB E + 1)) rfl dX10_between_26 ?_
      refine x_get hx hb hown hts hK hR kX8 (z_1 false) (j := 9) (by decide) fl_X10_130 (v := .ref (eB E + 8)) rfl dX10_between_29 ?_
      refine lv_iload_n hx hb dX10_between_32 rfl (lv_at hl 1 rfl) ?_
      obtain ⟨g33, hf⟩ := br_g hf
      refine x_iald hx hb hK hR (z_8 false) g33 dX10_between_33 ?_
      refine lv_aload_n hx hb dX10_between_34 rfl (lv_at hl 0 rfl) ?_
      refine x_get hx hb hown hts hK hR kX10 (z_0 false) (j := 0) (by decide) fl_X10_12 (v := .ref (eB E + 1)) rfl dX10_between_35 ?_
      refine x_get hx hb hown hts hK hR kX8 (z_1 false) (j := 10) (by decide) fl_X10_133 (v := .ref (eB E + 9)) rfl dX10_between_38 ?_
      refine lv_iload_n hx hb dX10_between_41 rfl (lv_at hl 1 rfl) ?_
      obtain ⟨g42, hf⟩ := br_g hf
      refine x_iald hx hb hK hR (z_9 false) g42 dX10_between_42 ?_
      cases hf
    · have hf := (br_if hf).1 q19
      exact wX10_between_E_22 X hf hR (lv_sub hl [] rfl)
theorem ctX10_between_E {l : Launch} {E : Ge} {M : Mem} {x1 : Int32} {x2 : Int32} {r : Int32} (h : fX10_between_E M x1 x2 = some r) : CT l E yX10_between cX10_between 4 (some .int) 7 0 0 [.ref (eB E + 0), .int x1, .int x2] (some (.int r)) (sh_ false) (nn false) M (sh_ false) (nn false) M := by
  refine met_of (by decide) (Nat.le_of_ble_eq_true rfl) ?_
  intro p e s m args below meth c X _ hR ls hl
  exact wX10_between_E_0 X h hR hl
def fX10_between_F_22 (M : Mem) : Option (Int32 × Mem) := none
def fX10_between_F (x1 : Int32) (x2 : Int32) (M : Mem) : Option (Int32 × Mem) := (fX8_hasPlace_t M x1).bind (fun q5 => (if q5 = 0 then fX10_between_F_22 M else (fX8_hasPlace_t M x2).bind (fun q16 => (if q16 = 0 then fX10_between_F_22 M else (if inb x1 20 = true then (if inb x1 20 = true then (fX10_fieldFrom_F (M.1 8 (ix x1)) (M.1 9 (ix x1)) M).bind (fun q43 => (if inb x2 20 = true then (if inb x2 20 = true then (fX1_firstBeatenBy (q43.1 8 (ix x2)) (q43.1 9 (ix x2)) q43).bind (fun q66 => some (q66.1, q66.2)) else none) else none)) else none) else none)))))
set_option maxHeartbeats 4000000 in
set_option maxRecDepth 100000 in
theorem wX10_between_F_22 {r : Int32} {M1 : Mem} (X : CX E p s m args c meth cX10_between 4 (some .int) RX10) : ∀ {M : Mem} {H : Heap} {locs : List Loc} {ls : Array Slot}, fX10_between_F_22 M = some (r, M1) → Rl E (sh_ false) (nn false) s.heap M H locs → lv_has ls 4 [] → W p l e (rm 7 6 45012) s m args below meth c H locs 0 0 (MQ below (qq E (some (.int r)) (sh_ true) (nn true) M1) args s 6 45012 (fr E)) (F0 m 22 ls []) := by
  obtain ⟨hx, hb, hr, hml, hown, hts, hK, hN, hO, hlk, hbs⟩ := id X
  intro M H locs ls hf hR hl
  unfold fX10_between_F_22 at hf
  refine lv_iconst (v := -1) hx hb dX10_between_22 (by decide) ?_
  cases hf
set_option maxHeartbeats 4000000 in
set_option maxRecDepth 100000 in
theorem wX10_between_F_0 {r : Int32} {M1 : Mem} (X : CX E p s m args c meth cX10_between 4 (some .int) RX10) : ∀ {x1 : Int32} {x2 : Int32} {M : Mem} {H : Heap} {locs : List Loc} {ls : Array Slot}, fX10_between_F x1 x2 M = some (r, M1) → Rl E (sh_ false) (nn false) s.heap M H locs → lv_has ls 4 [(0, .ref (eB E + 0)), (1, .int x1), (2, .int x2)] → W p l e (rm 7 6 45012) s m args below meth c H locs 0 0 (MQ below (qq E (some (.int r)) (sh_ true) (nn true) M1) args s 6 45012 (fr E)) (F0 m 0 ls []) := by
  obtain ⟨hx, hb, hr, hml, hown, hts, hK, hN, hO, hlk, hbs⟩ := id X
  intro x1 x2 M H locs ls hf hR hl
  unfold fX10_between_F at hf
  refine lv_aload_n hx hb dX10_between_0 rfl (lv_at hl 0 rfl) ?_
  refine x_get hx hb hown hts hK hR kX10 (z_0 false) (j := 0) (by decide) fl_X10_12 (v := .ref (eB E + 1)) rfl dX10_between_1 ?_
  refine lv_iload_n hx hb dX10_between_4 rfl (lv_at hl 1 rfl) ?_
  obtain ⟨q5, c5, hf⟩ := br_b hf
  refine x_callV (k := 1) (As := [.int x1]) (rest := []) (st1 := [.int q5]) X hR (ctX8_hasPlace_t c5) ml_X10_127 im_X8_hasPlace se_X8_hasPlace in_X8 co_X8_hasPlace yo_X8_hasPlace rfl kX8 (z_1 false) (rm_ok (by decide) (by decide)) rfl hl.1 rfl rfl (Nat.le_of_ble_eq_true rfl) dX10_between_5 ⟨Nat.le_of_ble_eq_true rfl, Nat.le_of_ble_eq_true rfl⟩ (fun H locs hR => ?_)
  refine lv_if_eq (tgt := 22) hx hb dX10_between_8 (by decide) (fun q8 => ?_) (fun q8 => ?_)
  · have hf := (br_if hf).1 q8
    exact wX10_between_F_22 X hf hR (lv_sub hl [] rfl)
  · have hf := (br_if hf).2 q8
    refine lv_aload_n hx hb dX10_between_11 rfl (lv_at hl 0 rfl) ?_
    refine x_get hx hb hown hts hK hR kX10 (z_0 false) (j := 0) (by decide) fl_X10_12 (v := .ref (eB E + 1)) rfl dX10_between_12 ?_
    refine lv_iload_n hx hb dX10_between_15 rfl (lv_at hl 2 rfl) ?_
    obtain ⟨q16, c16, hf⟩ := br_b hf
    refine x_callV (k := 1) (As := [.int x2]) (rest := []) (st1 := [.int q16]) X hR (ctX8_hasPlace_t c16) ml_X10_127 im_X8_hasPlace se_X8_hasPlace in_X8 co_X8_hasPlace yo_X8_hasPlace rfl kX8 (z_1 false) (rm_ok (by decide) (by decide)) rfl hl.1 rfl rfl (Nat.le_of_ble_eq_true rfl) dX10_between_16 ⟨Nat.le_of_ble_eq_true rfl, Nat.le_of_ble_eq_true rfl⟩ (fun H locs hR => ?_)
    refine lv_if_ne (tgt := 24) hx hb dX10_between_19 (by decide) (fun q19 => ?_) (fun q19 => ?_)
    · have hf := (br_if hf).2 q19
      refine lv_aload_n hx hb dX10_between_24 rfl (lv_at hl 0 rfl) ?_
      refine lv_aload_n hx hb dX10_between_25 rfl (lv_at hl 0 rfl) ?_
      refine x_get hx hb hown hts hK hR kX10 (z_0 false) (j := 0) (by decide) fl_X10_12 (v := .ref (eB E + 1)) rfl dX10_between_26 ?_
      refine x_get hx hb hown hts hK hR kX8 (z_1 false) (j := 9) (by decide) fl_X10_130 (v := .ref (eB E + 8)) rfl dX10_between_29 ?_
      refine lv_iload_n hx hb dX10_between_32 rfl (lv_at hl 1 rfl) ?_
      obtain ⟨g33, hf⟩ := br_g hf
      refine x_iald hx hb hK hR (z_8 false) g33 dX10_between_33 ?_
      refine lv_aload_n hx hb dX10_between_34 rfl (lv_at hl 0 rfl) ?_
      refine x_get hx hb hown hts hK hR kX10 (z_0 false) (j := 0) (by decide) fl_X10_12 (v := .ref (eB E + 1)) rfl dX10_between_35 ?_
      refine x_get hx hb hown hts hK hR kX8 (z_1 false) (j := 10) (by decide) fl_X10_133 (v := .ref (eB E + 9)) rfl dX10_between_38 ?_
      refine lv_iload_n hx hb dX10_between_41 rfl (lv_at hl 1 rfl) ?_
      obtain ⟨g42, hf⟩ := br_g hf
      refine x_iald hx hb hK hR (z_9 false) g42 dX10_between_42 ?_
      obtain ⟨q43, c43, hf⟩ := br_b hf
      refine x_callV (k := 0) (As := [.int (M.1 8 (ix x1)), .int (M.1 9 (ix x1))]) (rest := []) (st1 := [.ref (eB E + 141)]) X hR (ctX10_fieldFrom_F c43) ml_X10_204 im_X10_fieldFrom se_X10_fieldFrom in_X10 co_X10_fieldFrom yo_X10_fieldFrom rfl kX10 (z_0 false) (rm_ok (by decide) (by decide)) rfl hl.1 rfl rfl (Nat.le_of_ble_eq_true rfl) dX10_between_43 ⟨Nat.le_of_ble_eq_true rfl, Nat.le_of_ble_eq_true rfl⟩ (fun H locs hR => ?_)
      refine lv_astore_n (lv' := [(3, .ref (eB E + 141)), (0, .ref (eB E + 0)), (1, .int x1), (2, .int x2)]) hx hb dX10_between_46 rfl hl (by decide) rfl (fun ls hl => ?_)
      refine lv_aload_n hx hb dX10_between_47 rfl (lv_at hl 0 rfl) ?_
      refine lv_aload_n hx hb dX10_between_48 rfl (lv_at hl 1 rfl) ?_
      refine x_get hx hb hown hts hK hR kX10 (z_0 true) (j := 0) (by decide) fl_X10_12 (v := .ref (eB E + 1)) rfl dX10_between_49 ?_
      refine x_get hx hb hown hts hK hR kX8 (z_1 true) (j := 9) (by decide) fl_X10_130 (v := .ref (eB E + 8)) rfl dX10_between_52 ?_
      refine lv_iload_n hx hb dX10_between_55 rfl (lv_at hl 3 rfl) ?_
      obtain ⟨g56, hf⟩ := br_g hf
      refine x_iald hx hb hK hR (z_8 true) g56 dX10_between_56 ?_
      refine lv_aload_n hx hb dX10_between_57 rfl (lv_at hl 1 rfl) ?_
      refine x_get hx hb hown hts hK hR kX10 (z_0 true) (j := 0) (by decide) fl_X10_12 (v := .ref (eB E + 1)) rfl dX10_between_58 ?_
      refine x_get hx hb hown hts hK hR kX8 (z_1 true) (j := 10) (by decide) fl_X10_133 (v := .ref (eB E + 9)) rfl dX10_between_61 ?_
      refine lv_iload_n hx hb dX10_between_64 rfl (lv_at hl 3 rfl) ?_
      obtain ⟨g65, hf⟩ := br_g hf
      refine x_iald hx hb hK hR (z_9 true) g65 dX10_between_65 ?_
      obtain ⟨q66, c66, hf⟩ := br_b hf
      refine x_callV (k := 141) (As := [.int (q43.1 8 (ix x2)), .int (q43.1 9 (ix x2))]) (rest := []) (st1 := [.int q66.1]) X hR (ctX1_firstBeatenBy c66) ml_X10_241 im_X1_firstBeatenBy se_X1_firstBeatenBy in_X1 co_X1_firstBeatenBy yo_X1_firstBeatenBy rfl kX1 z_141 (rm_ok (by decide) (by decide)) rfl hl.1 rfl rfl (Nat.le_of_ble_eq_true rfl) dX10_between_66 ⟨Nat.le_of_ble_eq_true rfl, Nat.le_of_ble_eq_true rfl⟩ (fun H locs hR => ?_)
      cases hf
      exact x_iret hx hb hr hlk hR dX10_between_69
    · have hf := (br_if hf).1 q19
      exact wX10_between_F_22 X hf hR (lv_sub hl [] rfl)
theorem ctX10_between_F {l : Launch} {E : Ge} {M : Mem} {x1 : Int32} {x2 : Int32} {r : Int32} {M1 : Mem} (h : fX10_between_F x1 x2 M = some (r, M1)) : CT l E yX10_between cX10_between 4 (some .int) 7 6 45012 [.ref (eB E + 0), .int x1, .int x2] (some (.int r)) (sh_ false) (nn false) M (sh_ true) (nn true) M1 := by
  refine met_of (by decide) (Nat.le_of_ble_eq_true rfl) ?_
  intro p e s m args below meth c X _ hR ls hl
  exact wX10_between_F_0 X h hR hl
end WK
