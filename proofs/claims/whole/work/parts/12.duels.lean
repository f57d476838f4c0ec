section WK
variable {p : Program} {l : Launch} {e : Env} {s : State} {m : MethodId} {args : Array Value} {below : List Frame} {meth : Method} {c : Code} {E : Ge} {b : Bool}
def fX5_set (x1 : Int32) (x2 : Int32) (M : Mem) : Option Mem := (if inb (((M.1 45 1) * (9 : Int32)) + x1) 360 = true then nx (sI M 46 (ix (((M.1 45 1) * (9 : Int32)) + x1)) x2) (fun M14 => some M14) else none)
set_option maxHeartbeats 4000000 in
set_option maxRecDepth 100000 in
theorem wX5_set_0 {M1 : Mem} (X : CX E p s m args c meth cX5_set 3 none RX5) : ∀ {x1 : Int32} {x2 : Int32} {M : Mem} {H : Heap} {locs : List Loc} {ls : Array Slot}, fX5_set x1 x2 M = some M1 → Rl E (sh_ b) (nn b) s.heap M H locs → lv_has ls 3 [(0, .ref (eB E + 45)), (1, .int x1), (2, .int x2)] → W p l e (rm 1 0 0) s m args below meth c H locs 0 0 (MQ below (qq E none (sh_ b) (nn b) M1) args s 0 0 (fr E)) (F0 m 0 ls []) := by
  obtain ⟨hx, hb, hr, hml, hown, hts, hK, hN, hO, hlk, hbs⟩ := id X
  intro x1 x2 M H locs ls hf hR hl
  unfold fX5_set at hf
  refine lv_aload_n hx hb dX5_set_0 rfl (lv_at hl 0 rfl) ?_
  refine x_get hx hb hown hts hK hR kX5 (z_45 b) (j := 0) (by decide) fl_X5_11 (v := .ref (eB E + 46)) rfl dX5_set_1 ?_
  refine lv_aload_n hx hb dX5_set_4 rfl (lv_at hl 0 rfl) ?_
  refine x_get hx hb hown hts hK hR kX5 (z_45 b) (j := 1) (by decide) fl_X5_15 (v := .int (M.1 45 1)) rfl dX5_set_5 ?_
  refine lv_bipush (v := 9) hx hb dX5_set_8 (by decide) ?_
  refine lv_imul hx hb dX5_set_10 ?_
  refine lv_iload_n hx hb dX5_set_11 rfl (lv_at hl 1 rfl) ?_
  refine lv_iadd hx hb dX5_set_12 ?_
  refine lv_iload_n hx hb dX5_set_13 rfl (lv_at hl 2 rfl) ?_
  obtain ⟨g14, hf⟩ := br_g hf
  refine x_iast hx hb hK hR (z_46 b) g14 dX5_set_14 (fun H locs hR => ?_)
  obtain ⟨M14, e14⟩ : ∃ y : Mem, y = (sI M 46 (ix (((M.1 45 1) * (9 : Int32)) + x1)) x2) := ⟨_, rfl⟩
  have hf := nx_at e14 hf
  have hR : Rl E (sh_ b) (nn b) s.heap M14 H locs := by rw [e14]; exact hR
  cases hf
  exact x_vret hx hb hr hlk hR dX5_set_15
theorem ctX5_set {l : Launch} {E : Ge} {b : Bool} {M : Mem} {x1 : Int32} {x2 : Int32} {M1 : Mem} (h : fX5_set x1 x2 M = some M1) : CT l E yX5_set cX5_set 3 none 1 0 0 [.ref (eB E + 45), .int x1, .int x2] none (sh_ b) (nn b) M (sh_ b) (nn b) M1 := by
  refine met_of (by decide) (Nat.le_of_ble_eq_true rfl) ?_
  intro p e s m args below meth c X _ hR ls hl
  exact wX5_set_0 X h hR hl
def fX5_close (x1 : Int32) (x2 : Int32) (x3 : Int32) (x4 : Int32) (M : Mem) : Option Mem := (if (M.1 45 1) < (40 : Int32) then (fX5_set (3 : Int32) x1 M).bind (fun q13 => (fX5_set (4 : Int32) x2 q13).bind (fun q19 => (fX5_set (6 : Int32) x3 q19).bind (fun q26 => (fX5_set (8 : Int32) x4 q26).bind (fun q34 => nx (sI q34 45 1 ((q34.1 45 1) + (1 : Int32))) (fun M44 => some M44))))) else some M)
set_option maxHeartbeats 4000000 in
set_option maxRecDepth 100000 in
theorem wX5_close_0 {M1 : Mem} (X : CX E p s m args c meth cX5_close 5 none RX5) : ∀ {x1 : Int32} {x2 : Int32} {x3 : Int32} {x4 : Int32} {M : Mem} {H : Heap} {locs : List Loc} {ls : Array Slot}, fX5_close x1 x2 x3 x4 M = some M1 → Rl E (sh_ b) (nn b) s.heap M H locs → lv_has ls 5 [(0, .ref (eB E + 45)), (1, .int x1), (2, .int x2), (3, .int x3), (4, .int x4)] → W p l e (rm 2 0 0) s m args below meth c H locs 0 0 (MQ below (qq E none (sh_ b) (nn b) M1) args s 0 0 (fr E)) (F0 m 0 ls []) := by
  obtain ⟨hx, hb, hr, hml, hown, hts, hK, hN, hO, hlk, hbs⟩ := id X
  intro x1 x2 x3 x4 M H locs ls hf hR hl
  unfold fX5_close at hf
  refine lv_aload_n hx hb dX5_close_0 rfl (lv_at hl 0 rfl) ?_
  refine x_get hx hb hown hts hK hR kX5 (z_45 b) (j := 1) (by decide) fl_X5_15 (v := .int (M.1 45 1)) rfl dX5_close_1 ?_
  refine lv_bipush (v := 40) hx hb dX5_close_4 (by decide) ?_
  refine lv_icmp_lt (tgt := 10) hx hb dX5_close_6 (by decide) (fun q6 => ?_) (fun q6 => ?_)
  · have hf := (br_if hf).1 q6
    refine lv_aload_n hx hb dX5_close_10 rfl (lv_at hl 0 rfl) ?_
    refine lv_iconst (v := 3) hx hb dX5_close_11 (by decide) ?_
    refine lv_iload_n hx hb dX5_close_12 rfl (lv_at hl 1 rfl) ?_
    obtain ⟨q13, c13, hf⟩ := br_b hf
    refine x_callV (k := 45) (As := [.int (3 : Int32), .int x1]) (rest := []) (st1 := []) X hR (ctX5_set c13) ml_X5_19 im_X5_set se_X5_set in_X5 co_X5_set yo_X5_set rfl kX5 (z_45 b) (rm_ok (by decide) (by decide)) rfl hl.1 rfl rfl (Nat.le_of_ble_eq_true rfl) dX5_close_13 ⟨Nat.zero_le _, Nat.zero_le _⟩ (fun H locs hR => ?_)
    refine lv_aload_n hx hb dX5_close_16 rfl (lv_at hl 0 rfl) ?_
    refine lv_iconst (v := 4) hx hb dX5_close_17 (by decide) ?_
    refine lv_iload_n hx hb dX5_close_18 rfl (lv_at hl 2 rfl) ?_
    obtain ⟨q19, c19, hf⟩ := br_b hf
    refine x_callV (k := 45) (As := [.int (4 : Int32), .int x2]) (rest := []) (st1 := []) X hR (ctX5_set c19) ml_X5_19 im_X5_set se_X5_set in_X5 co_X5_set yo_X5_set rfl kX5 (z_45 b) (rm_ok (by decide) (by decide)) rfl hl.1 rfl rfl (Nat.le_of_ble_eq_true rfl) dX5_close_19 ⟨Nat.zero_le _, Nat.zero_le _⟩ (fun H locs hR => ?_)
    refine lv_aload_n hx hb dX5_close_22 rfl (lv_at hl 0 rfl) ?_
    refine lv_bipush (v := 6) hx hb dX5_close_23 (by decide) ?_
    refine lv_iload_n hx hb dX5_close_25 rfl (lv_at hl 3 rfl) ?_
    obtain ⟨q26, c26, hf⟩ := br_b hf
    refine x_callV (k := 45) (As := [.int (6 : Int32), .int x3]) (rest := []) (st1 := []) X hR (ctX5_set c26) ml_X5_19 im_X5_set se_X5_set in_X5 co_X5_set yo_X5_set rfl kX5 (z_45 b) (rm_ok (by decide) (by decide)) rfl hl.1 rfl rfl (Nat.le_of_ble_eq_true rfl) dX5_close_26 ⟨Nat.zero_le _, Nat.zero_le _⟩ (fun H locs hR => ?_)
    refine lv_aload_n hx hb dX5_close_29 rfl (lv_at hl 0 rfl) ?_
    refine lv_bipush (v := 8) hx hb dX5_close_30 (by decide) ?_
    refine lv_iload hx hb dX5_close_32 (lv_at hl 4 rfl) ?_
    obtain ⟨q34, c34, hf⟩ := br_b hf
    refine x_callV (k := 45) (As := [.int (8 : Int32), .int x4]) (rest := []) (st1 := []) X hR (ctX5_set c34) ml_X5_19 im_X5_set se_X5_set in_X5 co_X5_set yo_X5_set rfl kX5 (z_45 b) (rm_ok (by decide) (by decide)) rfl hl.1 rfl rfl (Nat.le_of_ble_eq_true rfl) dX5_close_34 ⟨Nat.zero_le _, Nat.zero_le _⟩ (fun H locs hR => ?_)
    refine lv_aload_n hx hb dX5_close_37 rfl (lv_at hl 0 rfl) ?_
    refine lv_dup hx hb dX5_close_38 rfl ?_
    refine x_get hx hb hown hts hK hR kX5 (z_45 b) (j := 1) (by decide) fl_X5_15 (v := .int (q34.1 45 1)) rfl dX5_close_39 ?_
    refine lv_iconst (v := 1) hx hb dX5_close_42 (by decide) ?_
    refine lv_iadd hx hb dX5_close_43 ?_
    refine x_puti hx hb hown hts hK hR kX5 (z_45 b) (j := 1) (by decide) fl_X5_15 rfl rfl rfl rfl dX5_close_44 (fun H locs hR => ?_)
    obtain ⟨M44, e44⟩ : ∃ y : Mem, y = (sI q34 45 1 ((q34.1 45 1) + (1 : Int32))) := ⟨_, rfl⟩
    have hf := nx_at e44 hf
    have hR : Rl E (sh_ b) (nn b) s.heap M44 H locs := by rw [e44]; exact hR
    cases hf
    exact x_vret hx hb hr hlk hR dX5_close_47
  · have hf := (br_if hf).2 q6
    cases hf
    exact x_vret hx hb hr hlk hR dX5_close_9
theorem ctX5_close {l : Launch} {E : Ge} {b : Bool} {M : Mem} {x1 : Int32} {x2 : Int32} {x3 : Int32} {x4 : Int32} {M1 : Mem} (h : fX5_close x1 x2 x3 x4 M = some M1) : CT l E yX5_close cX5_close 5 none 2 0 0 [.ref (eB E + 45), .int x1, .int x2, .int x3, .int x4] none (sh_ b) (nn b) M (sh_ b) (nn b) M1 := by
  refine met_of (by decide) (Nat.le_of_ble_eq_true rfl) ?_
  intro p e s m args below meth c X _ hR ls hl
  exact wX5_close_0 X h hR hl
def fX5_get (M : Mem) (x1 : Int32) (x2 : Int32) : Option Int32 := (if inb ((x1 * (9 : Int32)) + x2) 360 = true then some (M.1 46 (ix ((x1 * (9 : Int32)) + x2))) else none)
set_option maxHeartbeats 4000000 in
set_option maxRecDepth 100000 in
theorem wX5_get_0 {r : Int32} {M : Mem} (X : CX E p s m args c meth cX5_get 3 (some .int) RX5) : ∀ {x1 : Int32} {x2 : Int32} {H : Heap} {locs : List Loc} {ls : Array Slot}, fX5_get M x1 x2 = some r → Rl E (sh_ b) (nn b) s.heap M H locs → lv_has ls 3 [(0, .ref (eB E + 45)), (1, .int x1), (2, .int x2)] → W p l e (rm 1 0 0) s m args below meth c H locs 0 0 (MQ below (qq E (some (.int r)) (sh_ b) (nn b) M) args s 0 0 (fr E)) (F0 m 0 ls []) := by
  obtain ⟨hx, hb, hr, hml, hown, hts, hK, hN, hO, hlk, hbs⟩ := id X
  intro x1 x2 H locs ls hf hR hl
  unfold fX5_get at hf
  refine lv_aload_n hx hb dX5_get_0 rfl (lv_at hl 0 rfl) ?_
  refine x_get hx hb hown hts hK hR kX5 (z_45 b) (j := 0) (by decide) fl_X5_11 (v := .ref (eB E + 46)) rfl dX5_get_1 ?_
  refine lv_iload_n hx hb dX5_get_4 rfl (lv_at hl 1 rfl) ?_
  refine lv_bipush (v := 9) hx hb dX5_get_5 (by decide) ?_
  refine lv_imul hx hb dX5_get_7 ?_
  refine lv_iload_n hx hb dX5_get_8 rfl (lv_at hl 2 rfl) ?_
  refine lv_iadd hx hb dX5_get_9 ?_
  obtain ⟨g10, hf⟩ := br_g hf
  refine x_iald hx hb hK hR (z_46 b) g10 dX5_get_10 ?_
  cases hf
  exact x_iret hx hb hr hlk hR dX5_get_11
theorem ctX5_get {l : Launch} {E : Ge} {b : Bool} {M : Mem} {x1 : Int32} {x2 : Int32} {r : Int32} (h : fX5_get M x1 x2 = some r) : CT l E yX5_get cX5_get 3 (some .int) 1 0 0 [.ref (eB E + 45), .int x1, .int x2] (some (.int r)) (sh_ b) (nn b) M (sh_ b) (nn b) M := by
  refine met_of (by decide) (Nat.le_of_ble_eq_true rfl) ?_
  intro p e s m args below meth c X _ hR ls hl
  exact wX5_get_0 X h hR hl
def fX5_open (x1 : Int32) (x2 : Int32) (x3 : Int32) (x4 : Int32) (x5 : Int32) (M : Mem) : Option Mem := (if (M.1 45 1) < (40 : Int32) then (fX5_set (0 : Int32) x1 M).bind (fun q13 => (fX5_set (1 : Int32) x2 q13).bind (fun q19 => (fX5_set (2 : Int32) x3 q19).bind (fun q25 => (fX5_set (5 : Int32) x4 q25).bind (fun q32 => (fX5_set (7 : Int32) x5 q32).bind (fun q40 => some q40))))) else some M)
set_option maxHeartbeats 4000000 in
set_option maxRecDepth 100000 in
theorem wX5_open_0 {M1 : Mem} (X : CX E p s m args c meth cX5_open 6 none RX5) : ∀ {x1 : Int32} {x2 : Int32} {x3 : Int32} {x4 : Int32} {x5 : Int32} {M : Mem} {H : Heap} {locs : List Loc} {ls : Array Slot}, fX5_open x1 x2 x3 x4 x5 M = some M1 → Rl E (sh_ b) (nn b) s.heap M H locs → lv_has ls 6 [(0, .ref (eB E + 45)), (1, .int x1), (2, .int x2), (3, .int x3), (4, .int x4), (5, .int x5)] → W p l e (rm 2 0 0) s m args below meth c H locs 0 0 (MQ below (qq E none (sh_ b) (nn b) M1) args s 0 0 (fr E)) (F0 m 0 ls []) := by
  obtain ⟨hx, hb, hr, hml, hown, hts, hK, hN, hO, hlk, hbs⟩ := id X
  intro x1 x2 x3 x4 x5 M H locs ls hf hR hl
  unfold fX5_open at hf
  refine lv_aload_n hx hb dX5_open_0 rfl (lv_at hl 0 rfl) ?_
  refine x_get hx hb hown hts hK hR kX5 (z_45 b) (j := 1) (by decide) fl_X5_15 (v := .int (M.1 45 1)) rfl dX5_open_1 ?_
  refine lv_bipush (v := 40) hx hb dX5_open_4 (by decide) ?_
  refine lv_icmp_lt (tgt := 10) hx hb dX5_open_6 (by decide) (fun q6 => ?_) (fun q6 => ?_)
  · have hf := (br_if hf).1 q6
    refine lv_aload_n hx hb dX5_open_10 rfl (lv_at hl 0 rfl) ?_
    refine lv_iconst (v := 0) hx hb dX5_open_11 (by decide) ?_
    refine lv_iload_n hx hb dX5_open_12 rfl (lv_at hl 1 rfl) ?_
    obtain ⟨q13, c13, hf⟩ := br_b hf
    refine x_callV (k := 45) (As := [.int (0 : Int32), .int x1]) (rest := []) (st1 := []) X hR (ctX5_set c13) ml_X5_19 im_X5_set se_X5_set in_X5 co_X5_set yo_X5_set rfl kX5 (z_45 b) (rm_ok (by decide) (by decide)) rfl hl.1 rfl rfl (Nat.le_of_ble_eq_true rfl) dX5_open_13 ⟨Nat.zero_le _, Nat.zero_le _⟩ (fun H locs hR => ?_)
    refine lv_aload_n hx hb dX5_open_16 rfl (lv_at hl 0 rfl) ?_
    refine lv_iconst (v := 1) hx hb dX5_open_17 (by decide) ?_
    refine lv_iload_n hx hb dX5_open_18 rfl (lv_at hl 2 rfl) ?_
    obtain ⟨q19, c19, hf⟩ := br_b hf
    refine x_callV (k := 45) (As := [.int (1 : Int32), .int x2]) (rest := []) (st1 := []) X hR (ctX5_set c19) ml_X5_19 im_X5_set se_X5_set in_X5 co_X5_set yo_X5_set rfl kX5 (z_45 b) (rm_ok (by decide) (by decide)) rfl hl.1 rfl rfl (Nat.le_of_ble_eq_true rfl) dX5_open_19 ⟨Nat.zero_le _, Nat.zero_le _⟩ (fun H locs hR => ?_)
    refine lv_aload_n hx hb dX5_open_22 rfl (lv_at hl 0 rfl) ?_
    refine lv_iconst (v := 2) hx hb dX5_open_23 (by decide) ?_
    refine lv_iload_n hx hb dX5_open_24 rfl (lv_at hl 3 rfl) ?_
    obtain ⟨q25, c25, hf⟩ := br_b hf
    refine x_callV (k := 45) (As := [.int (2 : Int32), .int x3]) (rest := []) (st1 := []) X hR (ctX5_set c25) ml_X5_19 im_X5_set se_X5_set in_X5 co_X5_set yo_X5_set rfl kX5 (z_45 b) (rm_ok (by decide) (by decide)) rfl hl.1 rfl rfl (Nat.le_of_ble_eq_true rfl) dX5_open_25 ⟨Nat.zero_le _, Nat.zero_le _⟩ (fun H locs hR => ?_)
    refine lv_aload_n hx hb dX5_open_28 rfl (lv_at hl 0 rfl) ?_
    refine lv_iconst (v := 5) hx hb dX5_open_29 (by decide) ?_
    refine lv_iload hx hb dX5_open_30 (lv_at hl 4 rfl) ?_
    obtain ⟨q32, c32, hf⟩ := br_b hf
    refine x_callV (k := 45) (As := [.int (5 : Int32), .int x4]) (rest := []) (st1 := []) X hR (ctX5_set c32) ml_X5_19 im_X5_set se_X5_set in_X5 co_X5_set yo_X5_set rfl kX5 (z_45 b) (rm_ok (by decide) (by decide)) rfl hl.1 rfl rfl (Nat.le_of_ble_eq_true rfl) dX5_open_32 ⟨Nat.zero_le _, Nat.zero_le _⟩ (fun H locs hR => ?_)
    refine lv_aload_n hx hb dX5_open_35 rfl (lv_at hl 0 rfl) ?_
    refine lv_bipush (v := 7) hx hb dX5_open_36 (by decide) ?_
    refine lv_iload hx hb dX5_open_38 (lv_at hl 5 rfl) ?_
    obtain ⟨q40, c40, hf⟩ := br_b hf
    refine x_callV (k := 45) (As := [.int (7 : Int32), .int x5]) (rest := []) (st1 := []) X hR (ctX5_set c40) ml_X5_19 im_X5_set se_X5_set in_X5 co_X5_set yo_X5_set rfl kX5 (z_45 b) (rm_ok (by decide) (by decide)) rfl hl.1 rfl rfl (Nat.le_of_ble_eq_true rfl) dX5_open_40 ⟨Nat.zero_le _, Nat.zero_le _⟩ (fun H locs hR => ?_)
    cases hf
    exact x_vret hx hb hr hlk hR dX5_open_43
  · have hf := (br_if hf).2 q6
    cases hf
    exact x_vret hx hb hr hlk hR dX5_open_9
theorem ctX5_open {l : Launch} {E : Ge} {b : Bool} {M : Mem} {x1 : Int32} {x2 : Int32} {x3 : Int32} {x4 : Int32} {x5 : Int32} {M1 : Mem} (h : fX5_open x1 x2 x3 x4 x5 M = some M1) : CT l E yX5_open cX5_open 6 none 2 0 0 [.ref (eB E + 45), .int x1, .int x2, .int x3, .int x4, .int x5] none (sh_ b) (nn b) M (sh_ b) (nn b) M1 := by
  refine met_of (by decide) (Nat.le_of_ble_eq_true rfl) ?_
  intro p e s m args below meth c X _ hR ls hl
  exact wX5_open_0 X h hR hl
def fX0_addVotesOf_2 (k51 : Int32 → Mem → Option Mem) : Nat → Int32 → Int32 → Mem → Option Mem
  | 0, _, _, _ => none
  | n + 1, x1, x2, M => (if (M.1 1 8) ≤ x2 then k51 x1 M else (if inb x2 20 = true then (if inb x2 20 = true then (fX8_wayTo_t M x1 (M.1 8 (ix x2)) (M.1 9 (ix x2))).bind (fun q41 => (if inb x2 20 = true then nx (sI M 23 (ix x2) q41) (fun M44 => nx (x2 + (1 : Int32)) (fun v45 => fX0_addVotesOf_2 k51 n x1 v45 M44)) else none)) else none) else none))
def fX0_addVotesOf_115 (k66 : Int32 → Int32 → Int32 → Mem → Option Mem) (k121 : Int32 → Int32 → Mem → Option Mem) (x1 : Int32) (x2 : Int32) (x3 : Int32) (M : Mem) : Option Mem := nx (x3 + (1 : Int32)) (fun v115 => k66 x1 x2 v115 M)
def fX0_addVotesOf_66 (k121 : Int32 → Int32 → Mem → Option Mem) : Nat → Int32 → Int32 → Int32 → Mem → Option Mem
  | 0, _, _, _, _ => none
  | n + 1, x1, x2, x3, M => (if (M.1 1 8) ≤ x3 then k121 x1 x2 M else (if inb x2 20 = true then (if inb x3 20 = true then (if (M.1 23 (ix x3)) ≤ (M.1 23 (ix x2)) then fX0_addVotesOf_115 (fX0_addVotesOf_66 k121 n) k121 x1 x2 x3 M else (if inb ((x2 * (20 : Int32)) + x3) 400 = true then (if inb x1 15 = true then (if inb ((x2 * (20 : Int32)) + x3) 400 = true then nx (sI M 22 (ix ((x2 * (20 : Int32)) + x3)) ((M.1 22 (ix ((x2 * (20 : Int32)) + x3))) + (M.1 4 (ix x1)))) (fun M114 => fX0_addVotesOf_115 (fX0_addVotesOf_66 k121 n) k121 x1 x2 x3 M114) else none) else none) else none)) else none) else none))
def fX0_addVotesOf_121 (k53 : Int32 → Int32 → Mem → Option Mem) (k127 : Mem → Option Mem) (x1 : Int32) (x2 : Int32) (M : Mem) : Option Mem := nx (x2 + (1 : Int32)) (fun v121 => k53 x1 v121 M)
def fX0_addVotesOf_53 (k127 : Mem → Option Mem) : Nat → Int32 → Int32 → Mem → Option Mem
  | 0, _, _, _ => none
  | n + 1, x1, x2, M => (if (M.1 1 8) ≤ x2 then k127 M else fX0_addVotesOf_66 (fX0_addVotesOf_121 (fX0_addVotesOf_53 k127 n) k127) FU x1 x2 (0 : Int32) M)
def fX0_addVotesOf_127 (M : Mem) : Option Mem := some M
def fX0_addVotesOf_51 (x1 : Int32) (M : Mem) : Option Mem := fX0_addVotesOf_53 fX0_addVotesOf_127 FU x1 (0 : Int32) M
def fX0_addVotesOf (x1 : Int32) (M : Mem) : Option Mem := fX0_addVotesOf_2 fX0_addVotesOf_51 FU x1 (0 : Int32) M
set_option maxHeartbeats 4000000 in
set_option maxRecDepth 100000 in
theorem wX0_addVotesOf_2 {M1 : Mem} {k51 : Int32 → Mem → Option Mem} (X : CX E p s m args c meth cX0_addVotesOf 4 none RX0) (hk51 : ∀ {x1 : Int32} {M : Mem} {H : Heap} {locs : List Loc} {ls : Array Slot}, k51 x1 M = some M1 → Rl E (sh_ b) (nn b) s.heap M H locs → lv_has ls 4 [(0, .ref (eB E + 21)), (1, .int x1)] → W p l e (rm 4 0 0) s m args below meth c H locs 0 0 (MQ below (qq E none (sh_ b) (nn b) M1) args s 0 0 (fr E)) (F0 m 51 ls [])) : ∀ (n : Nat) {x1 : Int32} {x2 : Int32} {M : Mem} {H : Heap} {locs : List Loc} {ls : Array Slot}, fX0_addVotesOf_2 k51 n x1 x2 M = some M1 → Rl E (sh_ b) (nn b) s.heap M H locs → lv_has ls 4 [(0, .ref (eB E + 21)), (1, .int x1), (2, .int x2)] → W p l e (rm 4 0 0) s m args below meth c H locs 0 0 (MQ below (qq E none (sh_ b) (nn b) M1) args s 0 0 (fr E)) (F0 m 2 ls []) := by
  obtain ⟨hx, hb, hr, hml, hown, hts, hK, hN, hO, hlk, hbs⟩ := id X
  intro n
  induction n with
  | zero =>
    intro x1 x2 M H locs ls hf hR hl
    exact absurd (show none = some _ from hf) (fun h => by cases h)
  | succ n ih =>
    intro x1 x2 M H locs ls hf hR hl
    rw [fX0_addVotesOf_2] at hf
    refine lv_iload_n hx hb dX0_addVotesOf_2 rfl (lv_at hl 2 rfl) ?_
    refine lv_aload_n hx hb dX0_addVotesOf_3 rfl (lv_at hl 0 rfl) ?_
    refine x_get hx hb hown hts hK hR kX0 (z_21 b) (j := 0) (by decide) fl_X0_34 (v := .ref (eB E + 1)) rfl dX0_addVotesOf_4 ?_
    refine x_get hx hb hown hts hK hR kX8 (z_1 b) (j := 8) (by decide) fl_X0_58 (v := .int (M.1 1 8)) rfl dX0_addVotesOf_7 ?_
    refine lv_icmp_ge (tgt := 51) hx hb dX0_addVotesOf_10 (by decide) (fun q10 => ?_) (fun q10 => ?_)
    · have hf := (br_if hf).1 q10
      exact hk51 hf hR (lv_sub hl [0, 1] rfl)
    · have hf := (br_if hf).2 q10
      refine lv_aload_n hx hb dX0_addVotesOf_13 rfl (lv_at hl 0 rfl) ?_
      refine x_get hx hb hown hts hK hR kX0 (z_21 b) (j := 2) (by decide) fl_X0_15 (v := .ref (eB E + 23)) rfl dX0_addVotesOf_14 ?_
      refine lv_iload_n hx hb dX0_addVotesOf_17 rfl (lv_at hl 2 rfl) ?_
      refine lv_aload_n hx hb dX0_addVotesOf_18 rfl (lv_at hl 0 rfl) ?_
      refine x_get hx hb hown hts hK hR kX0 (z_21 b) (j := 0) (by decide) fl_X0_34 (v := .ref (eB E + 1)) rfl dX0_addVotesOf_19 ?_
      refine lv_iload_n hx hb dX0_addVotesOf_22 rfl (lv_at hl 1 rfl) ?_
      refine lv_aload_n hx hb dX0_addVotesOf_23 rfl (lv_at hl 0 rfl) ?_
      refine x_get hx hb hown hts hK hR kX0 (z_21 b) (j := 0) (by decide) fl_X0_34 (v := .ref (eB E + 1)) rfl dX0_addVotesOf_24 ?_
      refine x_get hx hb hown hts hK hR kX8 (z_1 b) (j := 9) (by decide) fl_X0_70 (v := .ref (eB E + 8)) rfl dX0_addVotesOf_27 ?_
      refine lv_iload_n hx hb dX0_addVotesOf_30 rfl (lv_at hl 2 rfl) ?_
      obtain ⟨g31, hf⟩ := br_g hf
      refine x_iald hx hb hK hR (z_8 b) g31 dX0_addVotesOf_31 ?_
      refine lv_aload_n hx hb dX0_addVotesOf_32 rfl (lv_at hl 0 rfl) ?_
      refine x_get hx hb hown hts hK hR kX0 (z_21 b) (j := 0) (by decide) fl_X0_34 (v := .ref (eB E + 1)) rfl dX0_addVotesOf_33 ?_
      refine x_get hx hb hown hts hK hR kX8 (z_1 b) (j := 10) (by decide) fl_X0_73 (v := .ref (eB E + 9)) rfl dX0_addVotesOf_36 ?_
      refine lv_iload_n hx hb dX0_addVotesOf_39 rfl (lv_at hl 2 rfl) ?_
      obtain ⟨g40, hf⟩ := br_g hf
      refine x_iald hx hb hK hR (z_9 b) g40 dX0_addVotesOf_40 ?_
      obtain ⟨q41, c41, hf⟩ := br_b hf
      refine x_callV (k := 1) (As := [.int x1, .int (M.1 8 (ix x2)), .int (M.1 9 (ix x2))]) (rest := [.int x2, .ref (eB E + 23)]) (st1 := [.int q41, .int x2, .ref (eB E + 23)]) X hR (ctX8_wayTo_t c41) ml_X0_76 im_X8_wayTo se_X8_wayTo in_X8 co_X8_wayTo yo_X8_wayTo rfl kX8 (z_1 b) (rm_ok (by decide) (by decide)) rfl hl.1 rfl rfl (Nat.le_of_ble_eq_true rfl) dX0_addVotesOf_41 ⟨Nat.zero_le _, Nat.zero_le _⟩ (fun H locs hR => ?_)
      obtain ⟨g44, hf⟩ := br_g hf
      refine x_iast hx hb hK hR (z_23 b) g44 dX0_addVotesOf_44 (fun H locs hR => ?_)
      obtain ⟨M44, e44⟩ : ∃ y : Mem, y = (sI M 23 (ix x2) q41) := ⟨_, rfl⟩
      have hf := nx_at e44 hf
      have hR : Rl E (sh_ b) (nn b) s.heap M44 H locs := by rw [e44]; exact hR
      obtain ⟨v45, e45⟩ : ∃ y : Int32, y = (x2 + (1 : Int32)) := ⟨_, rfl⟩
      have hf := nx_at e45 hf
      refine lv_iinc (v := v45) (lv' := [(2, .int v45), (0, .ref (eB E + 21)), (1, .int x1)]) hx hb dX0_addVotesOf_45 hl (k := 2) rfl (by rw [e45]; rfl) (by decide) rfl (fun ls hl => ?_)
      refine lv_goto (tgt := 2) hx hb dX0_addVotesOf_48 (by decide) ?_
      exact ih hf hR (lv_sub hl [1, 2, 0] rfl)
set_option maxHeartbeats 4000000 in
set_option maxRecDepth 100000 in
theorem wX0_addVotesOf_115 {M1 : Mem} {k66 : Int32 → Int32 → Int32 → Mem → Option Mem} {k121 : Int32 → Int32 → Mem → Option Mem} (X : CX E p s m args c meth cX0_addVotesOf 4 none RX0) (hk66 : ∀ {x1 : Int32} {x2 : Int32} {x3 : Int32} {M : Mem} {H : Heap} {locs : List Loc} {ls : Array Slot}, k66 x1 x2 x3 M = some M1 → Rl E (sh_ b) (nn b) s.heap M H locs → lv_has ls 4 [(0, .ref (eB E + 21)), (1, .int x1), (2, .int x2), (3, .int x3)] → W p l e (rm 4 0 0) s m args below meth c H locs 0 0 (MQ below (qq E none (sh_ b) (nn b) M1) args s 0 0 (fr E)) (F0 m 66 ls [])) (hk121 : ∀ {x1 : Int32} {x2 : Int32} {M : Mem} {H : Heap} {locs : List Loc} {ls : Array Slot}, k121 x1 x2 M = some M1 → Rl E (sh_ b) (nn b) s.heap M H locs → lv_has ls 4 [(0, .ref (eB E + 21)), (1, .int x1), (2, .int x2)] → W p l e (rm 4 0 0) s m args below meth c H locs 0 0 (MQ below (qq E none (sh_ b) (nn b) M1) args s 0 0 (fr E)) (F0 m 121 ls [])) : ∀ {x1 : Int32} {x2 : Int32} {x3 : Int32} {M : Mem} {H : Heap} {locs : List Loc} {ls : Array Slot}, fX0_addVotesOf_115 k66 k121 x1 x2 x3 M = some M1 → Rl E (sh_ b) (nn b) s.heap M H locs → lv_has ls 4 [(0, .ref (eB E + 21)), (1, .int x1), (2, .int x2), (3, .int x3)] → W p l e (rm 4 0 0) s m args below meth c H locs 0 0 (MQ below (qq E none (sh_ b) (nn b) M1) args s 0 0 (fr E)) (F0 m 115 ls []) := by
  obtain ⟨hx, hb, hr, hml, hown, hts, hK, hN, hO, hlk, hbs⟩ := id X
  intro x1 x2 x3 M H locs ls hf hR hl
  unfold fX0_addVotesOf_115 at hf
  obtain ⟨v115, e115⟩ : ∃ y : Int32, y = (x3 + (1 : Int32)) := ⟨_, rfl⟩
  have hf := nx_at e115 hf
  refine lv_iinc (v := v115) (lv' := [(3, .int v115), (0, .ref (eB E + 21)), (1, .int x1), (2, .int x2)]) hx hb dX0_addVotesOf_115 hl (k := 3) rfl (by rw [e115]; rfl) (by decide) rfl (fun ls hl => ?_)
  refine lv_goto (tgt := 66) hx hb dX0_addVotesOf_118 (by decide) ?_
  exact hk66 hf hR (lv_sub hl [1, 2, 3, 0] rfl)
set_option maxHeartbeats 4000000 in
set_option maxRecDepth 100000 in
theorem wX0_addVotesOf_66 {M1 : Mem} {k121 : Int32 → Int32 → Mem → Option Mem} (X : CX E p s m args c meth cX0_addVotesOf 4 none RX0) (hk121 : ∀ {x1 : Int32} {x2 : Int32} {M : Mem} {H : Heap} {locs : List Loc} {ls : Array Slot}, k121 x1 x2 M = some M1 → Rl E (sh_ b) (nn b) s.heap M H locs → lv_has ls 4 [(0, .ref (eB E + 21)), (1, .int x1), (2, .int x2)] → W p l e (rm 4 0 0) s m args below meth c H locs 0 0 (MQ below (qq E none (sh_ b) (nn b) M1) args s 0 0 (fr E)) (F0 m 121 ls [])) : ∀ (n : Nat) {x1 : Int32} {x2 : Int32} {x3 : Int32} {M : Mem} {H : Heap} {locs : List Loc} {ls : Array Slot}, fX0_addVotesOf_66 k121 n x1 x2 x3 M = some M1 → Rl E (sh_ b) (nn b) s.heap M H locs → lv_has ls 4 [(0, .ref (eB E + 21)), (1, .int x1), (2, .int x2), (3, .int x3)] → W p l e (rm 4 0 0) s m args below meth c H locs 0 0 (MQ below (qq E none (sh_ b) (nn b) M1) args s 0 0 (fr E)) (F0 m 66 ls []) := by
  obtain ⟨hx, hb, hr, hml, hown, hts, hK, hN, hO, hlk, hbs⟩ := id X
  intro n
  induction n with
  | zero =>
    intro x1 x2 x3 M H locs ls hf hR hl
    exact absurd (show none = some _ from hf) (fun h => by cases h)
  | succ n ih =>
    intro x1 x2 x3 M H locs ls hf hR hl
    rw [fX0_addVotesOf_66] at hf
    refine lv_iload_n hx hb dX0_addVotesOf_66 rfl (lv_at hl 3 rfl) ?_
    refine lv_aload_n hx hb dX0_addVotesOf_67 rfl (lv_at hl 0 rfl) ?_
    refine x_get hx hb hown hts hK hR kX0 (z_21 b) (j := 0) (by decide) fl_X0_34 (v := .ref (eB E + 1)) rfl dX0_addVotesOf_68 ?_
    refine x_get hx hb hown hts hK hR kX8 (z_1 b) (j := 8) (by decide) fl_X0_58 (v := .int (M.1 1 8)) rfl dX0_addVotesOf_71 ?_
    refine lv_icmp_ge (tgt := 121) hx hb dX0_addVotesOf_74 (by decide) (fun q74 => ?_) (fun q74 => ?_)
    · have hf := (br_if hf).1 q74
      exact hk121 hf hR (lv_sub hl [0, 1, 2] rfl)
    · have hf := (br_if hf).2 q74
      refine lv_aload_n hx hb dX0_addVotesOf_77 rfl (lv_at hl 0 rfl) ?_
      refine x_get hx hb hown hts hK hR kX0 (z_21 b) (j := 2) (by decide) fl_X0_15 (v := .ref (eB E + 23)) rfl dX0_addVotesOf_78 ?_
      refine lv_iload_n hx hb dX0_addVotesOf_81 rfl (lv_at hl 2 rfl) ?_
      obtain ⟨g82, hf⟩ := br_g hf
      refine x_iald hx hb hK hR (z_23 b) g82 dX0_addVotesOf_82 ?_
      refine lv_aload_n hx hb dX0_addVotesOf_83 rfl (lv_at hl 0 rfl) ?_
      refine x_get hx hb hown hts hK hR kX0 (z_21 b) (j := 2) (by decide) fl_X0_15 (v := .ref (eB E + 23)) rfl dX0_addVotesOf_84 ?_
      refine lv_iload_n hx hb dX0_addVotesOf_87 rfl (lv_at hl 3 rfl) ?_
      obtain ⟨g88, hf⟩ := br_g hf
      refine x_iald hx hb hK hR (z_23 b) g88 dX0_addVotesOf_88 ?_
      refine lv_icmp_ge (tgt := 115) hx hb dX0_addVotesOf_89 (by decide) (fun q89 => ?_) (fun q89 => ?_)
      · have hf := (br_if hf).1 q89
        exact wX0_addVotesOf_115 X (fun hf hR hl => ih hf hR hl) (fun hf hR hl => hk121 hf hR hl) hf hR hl
      · have hf := (br_if hf).2 q89
        refine lv_aload_n hx hb dX0_addVotesOf_92 rfl (lv_at hl 0 rfl) ?_
        refine x_get hx hb hown hts hK hR kX0 (z_21 b) (j := 1) (by decide) fl_X0_9 (v := .ref (eB E + 22)) rfl dX0_addVotesOf_93 ?_
        refine lv_iload_n hx hb dX0_addVotesOf_96 rfl (lv_at hl 2 rfl) ?_
        refine lv_bipush (v := 20) hx hb dX0_addVotesOf_97 (by decide) ?_
        refine lv_imul hx hb dX0_addVotesOf_99 ?_
        refine lv_iload_n hx hb dX0_addVotesOf_100 rfl (lv_at hl 3 rfl) ?_
        refine lv_iadd hx hb dX0_addVotesOf_101 ?_
        refine lv_dup2_11 hx hb dX0_addVotesOf_102 rfl rfl ?_
        obtain ⟨g103, hf⟩ := br_g hf
        refine x_iald hx hb hK hR (z_22 b) g103 dX0_addVotesOf_103 ?_
        refine lv_aload_n hx hb dX0_addVotesOf_104 rfl (lv_at hl 0 rfl) ?_
        refine x_get hx hb hown hts hK hR kX0 (z_21 b) (j := 0) (by decide) fl_X0_34 (v := .ref (eB E + 1)) rfl dX0_addVotesOf_105 ?_
        refine x_get hx hb hown hts hK hR kX8 (z_1 b) (j := 3) (by decide) fl_X0_80 (v := .ref (eB E + 4)) rfl dX0_addVotesOf_108 ?_
        refine lv_iload_n hx hb dX0_addVotesOf_111 rfl (lv_at hl 1 rfl) ?_
        obtain ⟨g112, hf⟩ := br_g hf
        refine x_iald hx hb hK hR (z_4 b) g112 dX0_addVotesOf_112 ?_
        refine lv_iadd hx hb dX0_addVotesOf_113 ?_
        obtain ⟨g114, hf⟩ := br_g hf
        refine x_iast hx hb hK hR (z_22 b) g114 dX0_addVotesOf_114 (fun H locs hR => ?_)
        obtain ⟨M114, e114⟩ : ∃ y : Mem, y = (sI M 22 (ix ((x2 * (20 : Int32)) + x3)) ((M.1 22 (ix ((x2 * (20 : Int32)) + x3))) + (M.1 4 (ix x1)))) := ⟨_, rfl⟩
        have hf := nx_at e114 hf
        have hR : Rl E (sh_ b) (nn b) s.heap M114 H locs := by rw [e114]; exact hR
        exact wX0_addVotesOf_115 X (fun hf hR hl => ih hf hR hl) (fun hf hR hl => hk121 hf hR hl) hf hR hl
set_option maxHeartbeats 4000000 in
set_option maxRecDepth 100000 in
theorem wX0_addVotesOf_121 {M1 : Mem} {k53 : Int32 → Int32 → Mem → Option Mem} {k127 : Mem → Option Mem} (X : CX E p s m args c meth cX0_addVotesOf 4 none RX0) (hk53 : ∀ {x1 : Int32} {x2 : Int32} {M : Mem} {H : Heap} {locs : List Loc} {ls : Array Slot}, k53 x1 x2 M = some M1 → Rl E (sh_ b) (nn b) s.heap M H locs → lv_has ls 4 [(0, .ref (eB E + 21)), (1, .int x1), (2, .int x2)] → W p l e (rm 4 0 0) s m args below meth c H locs 0 0 (MQ below (qq E none (sh_ b) (nn b) M1) args s 0 0 (fr E)) (F0 m 53 ls [])) (hk127 : ∀ {M : Mem} {H : Heap} {locs : List Loc} {ls : Array Slot}, k127 M = some M1 → Rl E (sh_ b) (nn b) s.heap M H locs → lv_has ls 4 [] → W p l e (rm 4 0 0) s m args below meth c H locs 0 0 (MQ below (qq E none (sh_ b) (nn b) M1) args s 0 0 (fr E)) (F0 m 127 ls [])) : ∀ {x1 : Int32} {x2 : Int32} {M : Mem} {H : Heap} {locs : List Loc} {ls : Array Slot}, fX0_addVotesOf_121 k53 k127 x1 x2 M = some M1 → Rl E (sh_ b) (nn b) s.heap M H locs → lv_has ls 4 [(0, .ref (eB E + 21)), (1, .int x1), (2, .int x2)] → W p l e (rm 4 0 0) s m args below meth c H locs 0 0 (MQ below (qq E none (sh_ b) (nn b) M1) args s 0 0 (fr E)) (F0 m 121 ls []) := by
  obtain ⟨hx, hb, hr, hml, hown, hts, hK, hN, hO, hlk, hbs⟩ := id X
  intro x1 x2 M H locs ls hf hR hl
  unfold fX0_addVotesOf_121 at hf
  obtain ⟨v121, e121⟩ : ∃ y : Int32, y = (x2 + (1 : Int32)) := ⟨_, rfl⟩
  have hf := nx_at e121 hf
  refine lv_iinc (v := v121) (lv' := [(2, .int v121), (0, .ref (eB E + 21)), (1, .int x1)]) hx hb dX0_addVotesOf_121 hl (k := 2) rfl (by rw [e121]; rfl) (by decide) rfl (fun ls hl => ?_)
  refine lv_goto (tgt := 53) hx hb dX0_addVotesOf_124 (by decide) ?_
  exact hk53 hf hR (lv_sub hl [1, 2, 0] rfl)
set_option maxHeartbeats 4000000 in
set_option maxRecDepth 100000 in
theorem wX0_addVotesOf_53 {M1 : Mem} {k127 : Mem → Option Mem} (X : CX E p s m args c meth cX0_addVotesOf 4 none RX0) (hk127 : ∀ {M : Mem} {H : Heap} {locs : List Loc} {ls : Array Slot}, k127 M = some M1 → Rl E (sh_ b) (nn b) s.heap M H locs → lv_has ls 4 [] → W p l e (rm 4 0 0) s m args below meth c H locs 0 0 (MQ below (qq E none (sh_ b) (nn b) M1) args s 0 0 (fr E)) (F0 m 127 ls [])) : ∀ (n : Nat) {x1 : Int32} {x2 : Int32} {M : Mem} {H : Heap} {locs : List Loc} {ls : Array Slot}, fX0_addVotesOf_53 k127 n x1 x2 M = some M1 → Rl E (sh_ b) (nn b) s.heap M H locs → lv_has ls 4 [(0, .ref (eB E + 21)), (1, .int x1), (2, .int x2)] → W p l e (rm 4 0 0) s m args below meth c H locs 0 0 (MQ below (qq E none (sh_ b) (nn b) M1) args s 0 0 (fr E)) (F0 m 53 ls []) := by
  obtain ⟨hx, hb, hr, hml, hown, hts, hK, hN, hO, hlk, hbs⟩ := id X
  intro n
  induction n with
  | zero =>
    intro x1 x2 M H locs ls hf hR hl
    exact absurd (show none = some _ from hf) (fun h => by cases h)
  | succ n ih =>
    intro x1 x2 M H locs ls hf hR hl
    rw [fX0_addVotesOf_53] at hf
    refine lv_iload_n hx hb dX0_addVotesOf_53 rfl (lv_at hl 2 rfl) ?_
    refine lv_aload_n hx hb dX0_addVotesOf_54 rfl (lv_at hl 0 rfl) ?_
    refine x_get hx hb hown hts hK hR kX0 (z_21 b) (j := 0) (by decide) fl_X0_34 (v := .ref (eB E + 1)) rfl dX0_addVotesOf_55 ?_
    refine x_get hx hb hown hts hK hR kX8 (z_1 b) (j := 8) (by decide) fl_X0_58 (v := .int (M.1 1 8)) rfl dX0_addVotesOf_58 ?_
    refine lv_icmp_ge (tgt := 127) hx hb dX0_addVotesOf_61 (by decide) (fun q61 => ?_) (fun q61 => ?_)
    · have hf := (br_if hf).1 q61
      exact hk127 hf hR (lv_sub hl [] rfl)
    · have hf := (br_if hf).2 q61
      refine lv_iconst (v := 0) hx hb dX0_addVotesOf_64 (by decide) ?_
      refine lv_istore_n (lv' := [(3, .int (0 : Int32)), (0, .ref (eB E + 21)), (1, .int x1), (2, .int x2)]) hx hb dX0_addVotesOf_65 rfl hl (by decide) rfl (fun ls hl => ?_)
      exact wX0_addVotesOf_66 X (fun hf hR hl => wX0_addVotesOf_121 X (fun hf hR hl => ih hf hR hl) (fun hf hR hl => hk127 hf hR hl) hf hR hl) FU hf hR (lv_sub hl [1, 2, 3, 0] rfl)
set_option maxHeartbeats 4000000 in
set_option maxRecDepth 100000 in
theorem wX0_addVotesOf_127 {M1 : Mem} (X : CX E p s m args c meth cX0_addVotesOf 4 none RX0) : ∀ {M : Mem} {H : Heap} {locs : List Loc} {ls : Array Slot}, fX0_addVotesOf_127 M = some M1 → Rl E (sh_ b) (nn b) s.heap M H locs → lv_has ls 4 [] → W p l e (rm 4 0 0) s m args below meth c H locs 0 0 (MQ below (qq E none (sh_ b) (nn b) M1) args s 0 0 (fr E)) (F0 m 127 ls []) := by
  obtain ⟨hx, hb, hr, hml, hown, hts, hK, hN, hO, hlk, hbs⟩ := id X
  intro M H locs ls hf hR hl
  unfold fX0_addVotesOf_127 at hf
  cases hf
  exact x_vret hx hb hr hlk hR dX0_addVotesOf_127
set_option maxHeartbeats 4000000 in
set_option maxRecDepth 100000 in
theorem wX0_addVotesOf_51 {M1 : Mem} (X : CX E p s m args c meth cX0_addVotesOf 4 none RX0) : ∀ {x1 : Int32} {M : Mem} {H : Heap} {locs : List Loc} {ls : Array Slot}, fX0_addVotesOf_51 x1 M = some M1 → Rl E (sh_ b) (nn b) s.heap M H locs → lv_has ls 4 [(0, .ref (eB E + 21)), (1, .int x1)] → W p l e (rm 4 0 0) s m args below meth c H locs 0 0 (MQ below (qq E none (sh_ b) (nn b) M1) args s 0 0 (fr E)) (F0 m 51 ls []) := by
  obtain ⟨hx, hb, hr, hml, hown, hts, hK, hN, hO, hlk, hbs⟩ := id X
  intro x1 M H locs ls hf hR hl
  unfold fX0_addVotesOf_51 at hf
  refine lv_iconst (v := 0) hx hb dX0_addVotesOf_51 (by decide) ?_
  refine lv_istore_n (lv' := [(2, .int (0 : Int32)), (0, .ref (eB E + 21)), (1, .int x1)]) hx hb dX0_addVotesOf_52 rfl hl (by decide) rfl (fun ls hl => ?_)
  exact wX0_addVotesOf_53 X (fun hf hR hl => wX0_addVotesOf_127 X hf hR hl) FU hf hR (lv_sub hl [1, 2, 0] rfl)
set_option maxHeartbeats 4000000 in
set_option maxRecDepth 100000 in
theorem wX0_addVotesOf_0 {M1 : Mem} (X : CX E p s m args c meth cX0_addVotesOf 4 none RX0) : ∀ {x1 : Int32} {M : Mem} {H : Heap} {locs : List Loc} {ls : Array Slot}, fX0_addVotesOf x1 M = some M1 → Rl E (sh_ b) (nn b) s.heap M H locs → lv_has ls 4 [(0, .ref (eB E + 21)), (1, .int x1)] → W p l e (rm 4 0 0) s m args below meth c H locs 0 0 (MQ below (qq E none (sh_ b) (nn b) M1) args s 0 0 (fr E)) (F0 m 0 ls []) := by
  obtain ⟨hx, hb, hr, hml, hown, hts, hK, hN, hO, hlk, hbs⟩ := id X
  intro x1 M H locs ls hf hR hl
  unfold fX0_addVotesOf at hf
  refine lv_iconst (v := 0) hx hb dX0_addVotesOf_0 (by decide) ?_
  refine lv_istore_n (lv' := [(2, .int (0 : Int32)), (0, .ref (eB E + 21)), (1, .int x1)]) hx hb dX0_addVotesOf_1 rfl hl (by decide) rfl (fun ls hl => ?_)
  exact wX0_addVotesOf_2 X (fun hf hR hl => wX0_addVotesOf_51 X hf hR hl) FU hf hR (lv_sub hl [1, 2, 0] rfl)
theorem ctX0_addVotesOf {l : Launch} {E : Ge} {b : Bool} {M : Mem} {x1 : Int32} {M1 : Mem} (h : fX0_addVotesOf x1 M = some M1) : CT l E yX0_addVotesOf cX0_addVotesOf 4 none 4 0 0 [.ref (eB E + 21), .int x1] none (sh_ b) (nn b) M (sh_ b) (nn b) M1 := by
  refine met_of (by decide) (Nat.le_of_ble_eq_true rfl) ?_
  intro p e s m args below meth c X _ hR ls hl
  exact wX0_addVotesOf_0 X h hR hl
def fX0_forOf (M : Mem) (x1 : Int32) (x2 : Int32) : Option Int32 := (if inb ((x1 * (20 : Int32)) + x2) 400 = true then some (M.1 22 (ix ((x1 * (20 : Int32)) + x2))) else none)
set_option maxHeartbeats 4000000 in
set_option maxRecDepth 100000 in
theorem wX0_forOf_0 {r : Int32} {M : Mem} (X : CX E p s m args c meth cX0_forOf 3 (some .int) RX0) : ∀ {x1 : Int32} {x2 : Int32} {H : Heap} {locs : List Loc} {ls : Array Slot}, fX0_forOf M x1 x2 = some r → Rl E (sh_ b) (nn b) s.heap M H locs → lv_has ls 3 [(0, .ref (eB E + 21)), (1, .int x1), (2, .int x2)] → W p l e (rm 1 0 0) s m args below meth c H locs 0 0 (MQ below (qq E (some (.int r)) (sh_ b) (nn b) M) args s 0 0 (fr E)) (F0 m 0 ls []) := by
  obtain ⟨hx, hb, hr, hml, hown, hts, hK, hN, hO, hlk, hbs⟩ := id X
  intro x1 x2 H locs ls hf hR hl
  unfold fX0_forOf at hf
  refine lv_aload_n hx hb dX0_forOf_0 rfl (lv_at hl 0 rfl) ?_
  refine x_get hx hb hown hts hK hR kX0 (z_21 b) (j := 1) (by decide) fl_X0_9 (v := .ref (eB E + 22)) rfl dX0_forOf_1 ?_
  refine lv_iload_n hx hb dX0_forOf_4 rfl (lv_at hl 1 rfl) ?_
  refine lv_bipush (v := 20) hx hb dX0_forOf_5 (by decide) ?_
  refine lv_imul hx hb dX0_forOf_7 ?_
  refine lv_iload_n hx hb dX0_forOf_8 rfl (lv_at hl 2 rfl) ?_
  refine lv_iadd hx hb dX0_forOf_9 ?_
  obtain ⟨g10, hf⟩ := br_g hf
  refine x_iald hx hb hK hR (z_22 b) g10 dX0_forOf_10 ?_
  cases hf
  exact x_iret hx hb hr hlk hR dX0_forOf_11
theorem ctX0_forOf {l : Launch} {E : Ge} {b : Bool} {M : Mem} {x1 : Int32} {x2 : Int32} {r : Int32} (h : fX0_forOf M x1 x2 = some r) : CT l E yX0_forOf cX0_forOf 3 (some .int) 1 0 0 [.ref (eB E + 21), .int x1, .int x2] (some (.int r)) (sh_ b) (nn b) M (sh_ b) (nn b) M := by
  refine met_of (by decide) (Nat.le_of_ble_eq_true rfl) ?_
  intro p e s m args below meth c X _ hR ls hl
  exact wX0_forOf_0 X h hR hl
def fX0_findBeaters_59 (k9 : Int32 → Int32 → Mem → Option Mem) (k65 : Mem → Option Mem) (x1 : Int32) (x2 : Int32) (M : Mem) : Option Mem := nx (x2 + (1 : Int32)) (fun v59 => k9 x1 v59 M)
def fX0_findBeaters_9 (k65 : Mem → Option Mem) : Nat → Int32 → Int32 → Mem → Option Mem
  | 0, _, _, _ => none
  | n + 1, x1, x2, M => (if (M.1 1 8) ≤ x2 then k65 M else (if x2 = x1 then fX0_findBeaters_59 (fX0_findBeaters_9 k65 n) k65 x1 x2 M else (fX0_forOf M x2 x1).bind (fun q32 => (fX0_forOf M x1 x2).bind (fun q38 => (fX8_isEnough_t M q32 q38).bind (fun q41 => (if q41 = 0 then fX0_findBeaters_59 (fX0_findBeaters_9 k65 n) k65 x1 x2 M else (if inb x1 20 = true then (if inb x1 20 = true then nx (sI M 24 (ix x1) ((M.1 24 (ix x1)) ||| ((1 : Int32) <<< (x2 &&& 31)))) (fun M58 => fX0_findBeaters_59 (fX0_findBeaters_9 k65 n) k65 x1 x2 M58) else none) else none)))))))
def fX0_findBeaters_65 (M : Mem) : Option Mem := some M
def fX0_findBeaters (x1 : Int32) (M : Mem) : Option Mem := (if inb x1 20 = true then nx (sI M 24 (ix x1) (0 : Int32)) (fun M6 => fX0_findBeaters_9 fX0_findBeaters_65 FU x1 (0 : Int32) M6) else none)
set_option maxHeartbeats 4000000 in
set_option maxRecDepth 100000 in
theorem wX0_findBeaters_59 {M1 : Mem} {k9 : Int32 → Int32 → Mem → Option Mem} {k65 : Mem → Option Mem} (X : CX E p s m args c meth cX0_findBeaters 3 none RX0) (hk9 : ∀ {x1 : Int32} {x2 : Int32} {M : Mem} {H : Heap} {locs : List Loc} {ls : Array Slot}, k9 x1 x2 M = some M1 → Rl E (sh_ b) (nn b) s.heap M H locs → lv_has ls 3 [(0, .ref (eB E + 21)), (1, .int x1), (2, .int x2)] → W p l e (rm 2 0 0) s m args below meth c H locs 0 0 (MQ below (qq E none (sh_ b) (nn b) M1) args s 0 0 (fr E)) (F0 m 9 ls [])) (hk65 : ∀ {M : Mem} {H : Heap} {locs : List Loc} {ls : Array Slot}, k65 M = some M1 → Rl E (sh_ b) (nn b) s.heap M H locs → lv_has ls 3 [] → W p l e (rm 2 0 0) s m args below meth c H locs 0 0 (MQ below (qq E none (sh_ b) (nn b) M1) args s 0 0 (fr E)) (F0 m 65 ls [])) : ∀ {x1 : Int32} {x2 : Int32} {M : Mem} {H : Heap} {locs : List Loc} {ls : Array Slot}, fX0_findBeaters_59 k9 k65 x1 x2 M = some M1 → Rl E (sh_ b) (nn b) s.heap M H locs → lv_has ls 3 [(0, .ref (eB E + 21)), (1, .int x1), (2, .int x2)] → W p l e (rm 2 0 0) s m args below meth c H locs 0 0 (MQ below (qq E none (sh_ b) (nn b) M1) args s 0 0 (fr E)) (F0 m 59 ls []) := by
  obtain ⟨hx, hb, hr, hml, hown, hts, hK, hN, hO, hlk, hbs⟩ := id X
  intro x1 x2 M H locs ls hf hR hl
  unfold fX0_findBeaters_59 at hf
  obtain ⟨v59, e59⟩ : ∃ y : Int32, y = (x2 + (1 : Int32)) := ⟨_, rfl⟩
  have hf := nx_at e59 hf
  refine lv_iinc (v := v59) (lv' := [(2, .int v59), (0, .ref (eB E + 21)), (1, .int x1)]) hx hb dX0_findBeaters_59 hl (k := 2) rfl (by rw [e59]; rfl) (by decide) rfl (fun ls hl => ?_)
  refine lv_goto (tgt := 9) hx hb dX0_findBeaters_62 (by decide) ?_
  exact hk9 hf hR (lv_sub hl [1, 2, 0] rfl)
set_option maxHeartbeats 4000000 in
set_option maxRecDepth 100000 in
theorem wX0_findBeaters_9 {M1 : Mem} {k65 : Mem → Option Mem} (X : CX E p s m args c meth cX0_findBeaters 3 none RX0) (hk65 : ∀ {M : Mem} {H : Heap} {locs : List Loc} {ls : Array Slot}, k65 M = some M1 → Rl E (sh_ b) (nn b) s.heap M H locs → lv_has ls 3 [] → W p l e (rm 2 0 0) s m args below meth c H locs 0 0 (MQ below (qq E none (sh_ b) (nn b) M1) args s 0 0 (fr E)) (F0 m 65 ls [])) : ∀ (n : Nat) {x1 : Int32} {x2 : Int32} {M : Mem} {H : Heap} {locs : List Loc} {ls : Array Slot}, fX0_findBeaters_9 k65 n x1 x2 M = some M1 → Rl E (sh_ b) (nn b) s.heap M H locs → lv_has ls 3 [(0, .ref (eB E + 21)), (1, .int x1), (2, .int x2)] → W p l e (rm 2 0 0) s m args below meth c H locs 0 0 (MQ below (qq E none (sh_ b) (nn b) M1) args s 0 0 (fr E)) (F0 m 9 ls []) := by
  obtain ⟨hx, hb, hr, hml, hown, hts, hK, hN, hO, hlk, hbs⟩ := id X
  intro n
  induction n with
  | zero =>
    intro x1 x2 M H locs ls hf hR hl
    exact absurd (show none = some _ from hf) (fun h => by cases h)
  | succ n ih =>
    intro x1 x2 M H locs ls hf hR hl
    rw [fX0_findBeaters_9] at hf
    refine lv_iload_n hx hb dX0_findBeaters_9 rfl (lv_at hl 2 rfl) ?_
    refine lv_aload_n hx hb dX0_findBeaters_10 rfl (lv_at hl 0 rfl) ?_
    refine x_get hx hb hown hts hK hR kX0 (z_21 b) (j := 0) (by decide) fl_X0_34 (v := .ref (eB E + 1)) rfl dX0_findBeaters_11 ?_
    refine x_get hx hb hown hts hK hR kX8 (z_1 b) (j := 8) (by decide) fl_X0_58 (v := .int (M.1 1 8)) rfl dX0_findBeaters_14 ?_
    refine lv_icmp_ge (tgt := 65) hx hb dX0_findBeaters_17 (by decide) (fun q17 => ?_) (fun q17 => ?_)
    · have hf := (br_if hf).1 q17
      exact hk65 hf hR (lv_sub hl [] rfl)
    · have hf := (br_if hf).2 q17
      refine lv_iload_n hx hb dX0_findBeaters_20 rfl (lv_at hl 2 rfl) ?_
      refine lv_iload_n hx hb dX0_findBeaters_21 rfl (lv_at hl 1 rfl) ?_
      refine lv_icmp_eq (tgt := 59) hx hb dX0_findBeaters_22 (by decide) (fun q22 => ?_) (fun q22 => ?_)
      · have hf := (br_if hf).1 q22
        exact wX0_findBeaters_59 X (fun hf hR hl => ih hf hR hl) (fun hf hR hl => hk65 hf hR hl) hf hR hl
      · have hf := (br_if hf).2 q22
        refine lv_aload_n hx hb dX0_findBeaters_25 rfl (lv_at hl 0 rfl) ?_
        refine x_get hx hb hown hts hK hR kX0 (z_21 b) (j := 0) (by decide) fl_X0_34 (v := .ref (eB E + 1)) rfl dX0_findBeaters_26 ?_
        refine lv_aload_n hx hb dX0_findBeaters_29 rfl (lv_at hl 0 rfl) ?_
        refine lv_iload_n hx hb dX0_findBeaters_30 rfl (lv_at hl 2 rfl) ?_
        refine lv_iload_n hx hb dX0_findBeaters_31 rfl (lv_at hl 1 rfl) ?_
        obtain ⟨q32, c32, hf⟩ := br_b hf
        refine x_callV (k := 21) (As := [.int x2, .int x1]) (rest := [.ref (eB E + 1)]) (st1 := [.int q32, .ref (eB E + 1)]) X hR (ctX0_forOf c32) ml_X0_83 im_X0_forOf se_X0_forOf in_X0 co_X0_forOf yo_X0_forOf rfl kX0 (z_21 b) (rm_ok (by decide) (by decide)) rfl hl.1 rfl rfl (Nat.le_of_ble_eq_true rfl) dX0_findBeaters_32 ⟨Nat.zero_le _, Nat.zero_le _⟩ (fun H locs hR => ?_)
        refine lv_aload_n hx hb dX0_findBeaters_35 rfl (lv_at hl 0 rfl) ?_
        refine lv_iload_n hx hb dX0_findBeaters_36 rfl (lv_at hl 1 rfl) ?_
        refine lv_iload_n hx hb dX0_findBeaters_37 rfl (lv_at hl 2 rfl) ?_
        obtain ⟨q38, c38, hf⟩ := br_b hf
        refine x_callV (k := 21) (As := [.int x1, .int x2]) (rest := [.int q32, .ref (eB E + 1)]) (st1 := [.int q38, .int q32, .ref (eB E + 1)]) X hR (ctX0_forOf c38) ml_X0_83 im_X0_forOf se_X0_forOf in_X0 co_X0_forOf yo_X0_forOf rfl kX0 (z_21 b) (rm_ok (by decide) (by decide)) rfl hl.1 rfl rfl (Nat.le_of_ble_eq_true rfl) dX0_findBeaters_38 ⟨Nat.zero_le _, Nat.zero_le _⟩ (fun H locs hR => ?_)
        obtain ⟨q41, c41, hf⟩ := br_b hf
        refine x_callV (k := 1) (As := [.int q32, .int q38]) (rest := []) (st1 := [.int q41]) X hR (ctX8_isEnough_t c41) ml_X0_87 im_X8_isEnough se_X8_isEnough in_X8 co_X8_isEnough yo_X8_isEnough rfl kX8 (z_1 b) (rm_ok (by decide) (by decide)) rfl hl.1 rfl rfl (Nat.le_of_ble_eq_true rfl) dX0_findBeaters_41 ⟨Nat.zero_le _, Nat.zero_le _⟩ (fun H locs hR => ?_)
        refine lv_if_eq (tgt := 59) hx hb dX0_findBeaters_44 (by decide) (fun q44 => ?_) (fun q44 => ?_)
        · have hf := (br_if hf).1 q44
          exact wX0_findBeaters_59 X (fun hf hR hl => ih hf hR hl) (fun hf hR hl => hk65 hf hR hl) hf hR hl
        · have hf := (br_if hf).2 q44
          refine lv_aload_n hx hb dX0_findBeaters_47 rfl (lv_at hl 0 rfl) ?_
          refine x_get hx hb hown hts hK hR kX0 (z_21 b) (j := 3) (by decide) fl_X0_18 (v := .ref (eB E + 24)) rfl dX0_findBeaters_48 ?_
          refine lv_iload_n hx hb dX0_findBeaters_51 rfl (lv_at hl 1 rfl) ?_
          refine lv_dup2_11 hx hb dX0_findBeaters_52 rfl rfl ?_
          obtain ⟨g53, hf⟩ := br_g hf
          refine x_iald hx hb hK hR (z_24 b) g53 dX0_findBeaters_53 ?_
          refine lv_iconst (v := 1) hx hb dX0_findBeaters_54 (by decide) ?_
          refine lv_iload_n hx hb dX0_findBeaters_55 rfl (lv_at hl 2 rfl) ?_
          refine lv_ishl hx hb dX0_findBeaters_56 ?_
          refine lv_ior hx hb dX0_findBeaters_57 ?_
          obtain ⟨g58, hf⟩ := br_g hf
          refine x_iast hx hb hK hR (z_24 b) g58 dX0_findBeaters_58 (fun H locs hR => ?_)
          obtain ⟨M58, e58⟩ : ∃ y : Mem, y = (sI M 24 (ix x1) ((M.1 24 (ix x1)) ||| ((1 : Int32) <<< (x2 &&& 31)))) := ⟨_, rfl⟩
          have hf := nx_at e58 hf
          have hR : Rl E (sh_ b) (nn b) s.heap M58 H locs := by rw [e58]; exact hR
          exact wX0_findBeaters_59 X (fun hf hR hl => ih hf hR hl) (fun hf hR hl => hk65 hf hR hl) hf hR hl
set_option maxHeartbeats 4000000 in
set_option maxRecDepth 100000 in
theorem wX0_findBeaters_65 {M1 : Mem} (X : CX E p s m args c meth cX0_findBeaters 3 none RX0) : ∀ {M : Mem} {H : Heap} {locs : List Loc} {ls : Array Slot}, fX0_findBeaters_65 M = some M1 → Rl E (sh_ b) (nn b) s.heap M H locs → lv_has ls 3 [] → W p l e (rm 2 0 0) s m args below meth c H locs 0 0 (MQ below (qq E none (sh_ b) (nn b) M1) args s 0 0 (fr E)) (F0 m 65 ls []) := by
  obtain ⟨hx, hb, hr, hml, hown, hts, hK, hN, hO, hlk, hbs⟩ := id X
  intro M H locs ls hf hR hl
  unfold fX0_findBeaters_65 at hf
  cases hf
  exact x_vret hx hb hr hlk hR dX0_findBeaters_65
set_option maxHeartbeats 4000000 in
set_option maxRecDepth 100000 in
theorem wX0_findBeaters_0 {M1 : Mem} (X : CX E p s m args c meth cX0_findBeaters 3 none RX0) : ∀ {x1 : Int32} {M : Mem} {H : Heap} {locs : List Loc} {ls : Array Slot}, fX0_findBeaters x1 M = some M1 → Rl E (sh_ b) (nn b) s.heap M H locs → lv_has ls 3 [(0, .ref (eB E + 21)), (1, .int x1)] → W p l e (rm 2 0 0) s m args below meth c H locs 0 0 (MQ below (qq E none (sh_ b) (nn b) M1) args s 0 0 (fr E)) (F0 m 0 ls []) := by
  obtain ⟨hx, hb, hr, hml, hown, hts, hK, hN, hO, hlk, hbs⟩ := id X
  intro x1 M H locs ls hf hR hl
  unfold fX0_findBeaters at hf
  refine lv_aload_n hx hb dX0_findBeaters_0 rfl (lv_at hl 0 rfl) ?_
  refine x_get hx hb hown hts hK hR kX0 (z_21 b) (j := 3) (by decide) fl_X0_18 (v := .ref (eB E + 24)) rfl dX0_findBeaters_1 ?_
  refine lv_iload_n hx hb dX0_findBeaters_4 rfl (lv_at hl 1 rfl) ?_
  refine lv_iconst (v := 0) hx hb dX0_findBeaters_5 (by decide) ?_
  obtain ⟨g6, hf⟩ := br_g hf
  refine x_iast hx hb hK hR (z_24 b) g6 dX0_findBeaters_6 (fun H locs hR => ?_)
  obtain ⟨M6, e6⟩ : ∃ y : Mem, y = (sI M 24 (ix x1) (0 : Int32)) := ⟨_, rfl⟩
  have hf := nx_at e6 hf
  have hR : Rl E (sh_ b) (nn b) s.heap M6 H locs := by rw [e6]; exact hR
  refine lv_iconst (v := 0) hx hb dX0_findBeaters_7 (by decide) ?_
  refine lv_istore_n (lv' := [(2, .int (0 : Int32)), (0, .ref (eB E + 21)), (1, .int x1)]) hx hb dX0_findBeaters_8 rfl hl (by decide) rfl (fun ls hl => ?_)
  exact wX0_findBeaters_9 X (fun hf hR hl => wX0_findBeaters_65 X hf hR hl) FU hf hR (lv_sub hl [1, 2, 0] rfl)
theorem ctX0_findBeaters {l : Launch} {E : Ge} {b : Bool} {M : Mem} {x1 : Int32} {M1 : Mem} (h : fX0_findBeaters x1 M = some M1) : CT l E yX0_findBeaters cX0_findBeaters 3 none 2 0 0 [.ref (eB E + 21), .int x1] none (sh_ b) (nn b) M (sh_ b) (nn b) M1 := by
  refine met_of (by decide) (Nat.le_of_ble_eq_true rfl) ?_
  intro p e s m args below meth c X _ hR ls hl
  exact wX0_findBeaters_0 X h hR hl
def fX0_greatestAgainst_31 (M : Mem) (k4 : Int32 → Int32 → Int32 → Option Int32) (k37 : Int32 → Option Int32) (x1 : Int32) (x2 : Int32) (x3 : Int32) : Option Int32 := nx (x3 + (1 : Int32)) (fun v31 => k4 x1 x2 v31)
def fX0_greatestAgainst_4 (M : Mem) (k37 : Int32 → Option Int32) : Nat → Int32 → Int32 → Int32 → Option Int32
  | 0, _, _, _ => none
  | n + 1, x1, x2, x3 => (if (M.1 1 8) ≤ x3 then k37 x2 else (if x3 = x1 then fX0_greatestAgainst_31 M (fX0_greatestAgainst_4 M k37 n) k37 x1 x2 x3 else (fX0_forOf M x3 x1).bind (fun q24 => nx (imax x2 q24) (fun v30 => fX0_greatestAgainst_31 M (fX0_greatestAgainst_4 M k37 n) k37 x1 v30 x3))))
def fX0_greatestAgainst_37 (M : Mem) (x2 : Int32) : Option Int32 := some x2
def fX0_greatestAgainst (M : Mem) (x1 : Int32) : Option Int32 := fX0_greatestAgainst_4 M (fX0_greatestAgainst_37 M) FU x1 (0 : Int32) (0 : Int32)
set_option maxHeartbeats 4000000 in
set_option maxRecDepth 100000 in
theorem wX0_greatestAgainst_31 {r : Int32} {M : Mem} {k4 : Int32 → Int32 → Int32 → Option Int32} {k37 : Int32 → Option Int32} (X : CX E p s m args c meth cX0_greatestAgainst 4 (some .int) RX0) (hk4 : ∀ {x1 : Int32} {x2 : Int32} {x3 : Int32} {H : Heap} {locs : List Loc} {ls : Array Slot}, k4 x1 x2 x3 = some r → Rl E (sh_ b) (nn b) s.heap M H locs → lv_has ls 4 [(0, .ref (eB E + 21)), (1, .int x1), (2, .int x2), (3, .int x3)] → W p l e (rm 2 0 0) s m args below meth c H locs 0 0 (MQ below (qq E (some (.int r)) (sh_ b) (nn b) M) args s 0 0 (fr E)) (F0 m 4 ls [])) (hk37 : ∀ {x2 : Int32} {H : Heap} {locs : List Loc} {ls : Array Slot}, k37 x2 = some r → Rl E (sh_ b) (nn b) s.heap M H locs → lv_has ls 4 [(2, .int x2)] → W p l e (rm 2 0 0) s m args below meth c H locs 0 0 (MQ below (qq E (some (.int r)) (sh_ b) (nn b) M) args s 0 0 (fr E)) (F0 m 37 ls [])) : ∀ {x1 : Int32} {x2 : Int32} {x3 : Int32} {H : Heap} {locs : List Loc} {ls : Array Slot}, fX0_greatestAgainst_31 M k4 k37 x1 x2 x3 = some r → Rl E (sh_ b) (nn b) s.heap M H locs → lv_has ls 4 [(0, .ref (eB E + 21)), (1, .int x1), (2, .int x2), (3, .int x3)] → W p l e (rm 2 0 0) s m args below meth c H locs 0 0 (MQ below (qq E (some (.int r)) (sh_ b) (nn b) M) args s 0 0 (fr E)) (F0 m 31 ls []) := by
  obtain ⟨hx, hb, hr, hml, hown, hts, hK, hN, hO, hlk, hbs⟩ := id X
  intro x1 x2 x3 H locs ls hf hR hl
  unfold fX0_greatestAgainst_31 at hf
  obtain ⟨v31, e31⟩ : ∃ y : Int32, y = (x3 + (1 : Int32)) := ⟨_, rfl⟩
  have hf := nx_at e31 hf
  refine lv_iinc (v := v31) (lv' := [(3, .int v31), (0, .ref (eB E + 21)), (1, .int x1), (2, .int x2)]) hx hb dX0_greatestAgainst_31 hl (k := 3) rfl (by rw [e31]; rfl) (by decide) rfl (fun ls hl => ?_)
  refine lv_goto (tgt := 4) hx hb dX0_greatestAgainst_34 (by decide) ?_
  exact hk4 hf hR (lv_sub hl [1, 2, 3, 0] rfl)
set_option maxHeartbeats 4000000 in
set_option maxRecDepth 100000 in
theorem wX0_greatestAgainst_4 {r : Int32} {M : Mem} {k37 : Int32 → Option Int32} (X : CX E p s m args c meth cX0_greatestAgainst 4 (some .int) RX0) (hk37 : ∀ {x2 : Int32} {H : Heap} {locs : List Loc} {ls : Array Slot}, k37 x2 = some r → Rl E (sh_ b) (nn b) s.heap M H locs → lv_has ls 4 [(2, .int x2)] → W p l e (rm 2 0 0) s m args below meth c H locs 0 0 (MQ below (qq E (some (.int r)) (sh_ b) (nn b) M) args s 0 0 (fr E)) (F0 m 37 ls [])) : ∀ (n : Nat) {x1 : Int32} {x2 : Int32} {x3 : Int32} {H : Heap} {locs : List Loc} {ls : Array Slot}, fX0_greatestAgainst_4 M k37 n x1 x2 x3 = some r → Rl E (sh_ b) (nn b) s.heap M H locs → lv_has ls 4 [(0, .ref (eB E + 21)), (1, .int x1), (2, .int x2), (3, .int x3)] → W p l e (rm 2 0 0) s m args below meth c H locs 0 0 (MQ below (qq E (some (.int r)) (sh_ b) (nn b) M) args s 0 0 (fr E)) (F0 m 4 ls []) := by
  obtain ⟨hx, hb, hr, hml, hown, hts, hK, hN, hO, hlk, hbs⟩ := id X
  intro n
  induction n with
  | zero =>
    intro x1 x2 x3 H locs ls hf hR hl
    exact absurd (show none = some _ from hf) (fun h => by cases h)
  | succ n ih =>
    intro x1 x2 x3 H locs ls hf hR hl
    rw [fX0_greatestAgainst_4] at hf
    refine lv_iload_n hx hb dX0_greatestAgainst_4 rfl (lv_at hl 3 rfl) ?_
    refine lv_aload_n hx hb dX0_greatestAgainst_5 rfl (lv_at hl 0 rfl) ?_
    refine x_get hx hb hown hts hK hR kX0 (z_21 b) (j := 0) (by decide) fl_X0_34 (v := .ref (eB E + 1)) rfl dX0_greatestAgainst_6 ?_
    refine x_get hx hb hown hts hK hR kX8 (z_1 b) (j := 8) (by decide) fl_X0_58 (v := .int (M.1 1 8)) rfl dX0_greatestAgainst_9 ?_
    refine lv_icmp_ge (tgt := 37) hx hb dX0_greatestAgainst_12 (by decide) (fun q12 => ?_) (fun q12 => ?_)
    · have hf := (br_if hf).1 q12
      exact hk37 hf hR (lv_sub hl [2] rfl)
    · have hf := (br_if hf).2 q12
      refine lv_iload_n hx hb dX0_greatestAgainst_15 rfl (lv_at hl 3 rfl) ?_
      refine lv_iload_n hx hb dX0_greatestAgainst_16 rfl (lv_at hl 1 rfl) ?_
      refine lv_icmp_eq (tgt := 31) hx hb dX0_greatestAgainst_17 (by decide) (fun q17 => ?_) (fun q17 => ?_)
      · have hf := (br_if hf).1 q17
        exact wX0_greatestAgainst_31 X (fun hf hR hl => ih hf hR hl) (fun hf hR hl => hk37 hf hR hl) hf hR hl
      · have hf := (br_if hf).2 q17
        refine lv_iload_n hx hb dX0_greatestAgainst_20 rfl (lv_at hl 2 rfl) ?_
        refine lv_aload_n hx hb dX0_greatestAgainst_21 rfl (lv_at hl 0 rfl) ?_
        refine lv_iload_n hx hb dX0_greatestAgainst_22 rfl (lv_at hl 3 rfl) ?_
        refine lv_iload_n hx hb dX0_greatestAgainst_23 rfl (lv_at hl 1 rfl) ?_
        obtain ⟨q24, c24, hf⟩ := br_b hf
        refine x_callV (k := 21) (As := [.int x3, .int x1]) (rest := [.int x2]) (st1 := [.int q24, .int x2]) X hR (ctX0_forOf c24) ml_X0_83 im_X0_forOf se_X0_forOf in_X0 co_X0_forOf yo_X0_forOf rfl kX0 (z_21 b) (rm_ok (by decide) (by decide)) rfl hl.1 rfl rfl (Nat.le_of_ble_eq_true rfl) dX0_greatestAgainst_24 ⟨Nat.zero_le _, Nat.zero_le _⟩ (fun H locs hR => ?_)
        refine va_mmax hx hb (by rw [hml]; exact hl.1.symm) hown (hts _ ml_X0_91) (hts _ st_max) (hts _ in_J9) (hts _ co_max) (by decide) (Nat.le_of_ble_eq_true rfl) (Nat.zero_le _) (Nat.zero_le _) dX0_greatestAgainst_27 ?_
        refine W.eq (g2 := F0 m 30 ls [.int (imax x2 q24)]) rfl ?_
        refine lv_topi (fun v30 e30 => ?_)
        have hf := nx_at e30 hf
        refine lv_istore_n (lv' := [(2, .int v30), (0, .ref (eB E + 21)), (1, .int x1), (3, .int x3)]) hx hb dX0_greatestAgainst_30 rfl hl (by decide) rfl (fun ls hl => ?_)
        exact wX0_greatestAgainst_31 X (fun hf hR hl => ih hf hR hl) (fun hf hR hl => hk37 hf hR hl) hf hR (lv_sub hl [1, 2, 0, 3] rfl)
set_option maxHeartbeats 4000000 in
set_option maxRecDepth 100000 in
theorem wX0_greatestAgainst_37 {r : Int32} {M : Mem} (X : CX E p s m args c meth cX0_greatestAgainst 4 (some .int) RX0) : ∀ {x2 : Int32} {H : Heap} {locs : List Loc} {ls : Array Slot}, fX0_greatestAgainst_37 M x2 = some r → Rl E (sh_ b) (nn b) s.heap M H locs → lv_has ls 4 [(2, .int x2)] → W p l e (rm 2 0 0) s m args below meth c H locs 0 0 (MQ below (qq E (some (.int r)) (sh_ b) (nn b) M) args s 0 0 (fr E)) (F0 m 37 ls []) := by
  obtain ⟨hx, hb, hr, hml, hown, hts, hK, hN, hO, hlk, hbs⟩ := id X
  intro x2 H locs ls hf hR hl
  unfold fX0_greatestAgainst_37 at hf
  refine lv_iload_n hx hb dX0_greatestAgainst_37 rfl (lv_at hl 0 rfl) ?_
  cases hf
  exact x_iret hx hb hr hlk hR dX0_greatestAgainst_38
set_option maxHeartbeats 4000000 in
set_option maxRecDepth 100000 in
theorem wX0_greatestAgainst_0 {r : Int32} {M : Mem} (X : CX E p s m args c meth cX0_greatestAgainst 4 (some .int) RX0) : ∀ {x1 : Int32} {H : Heap} {locs : List Loc} {ls : Array Slot}, fX0_greatestAgainst M x1 = some r → Rl E (sh_ b) (nn b) s.heap M H locs → lv_has ls 4 [(0, .ref (eB E + 21)), (1, .int x1)] → W p l e (rm 2 0 0) s m args below meth c H locs 0 0 (MQ below (qq E (some (.int r)) (sh_ b) (nn b) M) args s 0 0 (fr E)) (F0 m 0 ls []) := by
  obtain ⟨hx, hb, hr, hml, hown, hts, hK, hN, hO, hlk, hbs⟩ := id X
  intro x1 H locs ls hf hR hl
  unfold fX0_greatestAgainst at hf
  refine lv_iconst (v := 0) hx hb dX0_greatestAgainst_0 (by decide) ?_
  refine lv_istore_n (lv' := [(2, .int (0 : Int32)), (0, .ref (eB E + 21)), (1, .int x1)]) hx hb dX0_greatestAgainst_1 rfl hl (by decide) rfl (fun ls hl => ?_)
  refine lv_iconst (v := 0) hx hb dX0_greatestAgainst_2 (by decide) ?_
  refine lv_istore_n (lv' := [(3, .int (0 : Int32)), (2, .int (0 : Int32)), (0, .ref (eB E + 21)), (1, .int x1)]) hx hb dX0_greatestAgainst_3 rfl hl (by decide) rfl (fun ls hl => ?_)
  exact wX0_greatestAgainst_4 X (fun hf hR hl => wX0_greatestAgainst_37 X hf hR hl) FU hf hR (lv_sub hl [2, 3, 1, 0] rfl)
theorem ctX0_greatestAgainst {l : Launch} {E : Ge} {b : Bool} {M : Mem} {x1 : Int32} {r : Int32} (h : fX0_greatestAgainst M x1 = some r) : CT l E yX0_greatestAgainst cX0_greatestAgainst 4 (some .int) 2 0 0 [.ref (eB E + 21), .int x1] (some (.int r)) (sh_ b) (nn b) M (sh_ b) (nn b) M := by
  refine met_of (by decide) (Nat.le_of_ble_eq_true rfl) ?_
  intro p e s m args below meth c X _ hR ls hl
  exact wX0_greatestAgainst_0 X h hR hl
def fX0_isBeaten_19 (M : Mem) (s0 : Int32) : Option Int32 := some (s0 &&& 1)
def fX0_isBeaten (M : Mem) (x1 : Int32) (x2 : Int32) : Option Int32 := (if inb x1 20 = true then (if (((M.1 24 (ix x1)) >>> (x2 &&& 31)) &&& (1 : Int32)) = (1 : Int32) then fX0_isBeaten_19 M (1 : Int32) else fX0_isBeaten_19 M (0 : Int32)) else none)
set_option maxHeartbeats 4000000 in
set_option maxRecDepth 100000 in
theorem wX0_isBeaten_19 {r : Int32} {M : Mem} (X : CX E p s m args c meth cX0_isBeaten 3 (some .boolean) RX0) : ∀ {s0 : Int32} {H : Heap} {locs : List Loc} {ls : Array Slot}, fX0_isBeaten_19 M s0 = some r → Rl E (sh_ b) (nn b) s.heap M H locs → lv_has ls 3 [] → W p l e (rm 1 0 0) s m args below meth c H locs 0 0 (MQ below (qq E (some (.int r)) (sh_ b) (nn b) M) args s 0 0 (fr E)) (F0 m 19 ls [.int s0]) := by
  obtain ⟨hx, hb, hr, hml, hown, hts, hK, hN, hO, hlk, hbs⟩ := id X
  intro s0 H locs ls hf hR hl
  unfold fX0_isBeaten_19 at hf
  cases hf
  exact x_zret hx hb hr hlk hR rfl dX0_isBeaten_19
set_option maxHeartbeats 4000000 in
set_option maxRecDepth 100000 in
theorem wX0_isBeaten_0 {r : Int32} {M : Mem} (X : CX E p s m args c meth cX0_isBeaten 3 (some .boolean) RX0) : ∀ {x1 : Int32} {x2 : Int32} {H : Heap} {locs : List Loc} {ls : Array Slot}, fX0_isBeaten M x1 x2 = some r → Rl E (sh_ b) (nn b) s.heap M H locs → lv_has ls 3 [(0, .ref (eB E + 21)), (1, .int x1), (2, .int x2)] → W p l e (rm 1 0 0) s m args below meth c H locs 0 0 (MQ below (qq E (some (.int r)) (sh_ b) (nn b) M) args s 0 0 (fr E)) (F0 m 0 ls []) := by
  obtain ⟨hx, hb, hr, hml, hown, hts, hK, hN, hO, hlk, hbs⟩ := id X
  intro x1 x2 H locs ls hf hR hl
  unfold fX0_isBeaten at hf
  refine lv_aload_n hx hb dX0_isBeaten_0 rfl (lv_at hl 0 rfl) ?_
  refine x_get hx hb hown hts hK hR kX0 (z_21 b) (j := 3) (by decide) fl_X0_18 (v := .ref (eB E + 24)) rfl dX0_isBeaten_1 ?_
  refine lv_iload_n hx hb dX0_isBeaten_4 rfl (lv_at hl 1 rfl) ?_
  obtain ⟨g5, hf⟩ := br_g hf
  refine x_iald hx hb hK hR (z_24 b) g5 dX0_isBeaten_5 ?_
  refine lv_iload_n hx hb dX0_isBeaten_6 rfl (lv_at hl 2 rfl) ?_
  refine lv_ishr hx hb dX0_isBeaten_7 ?_
  refine lv_iconst (v := 1) hx hb dX0_isBeaten_8 (by decide) ?_
  refine lv_iand hx hb dX0_isBeaten_9 ?_
  refine lv_iconst (v := 1) hx hb dX0_isBeaten_10 (by decide) ?_
  refine lv_icmp_ne (tgt := 18) hx hb dX0_isBeaten_11 (by decide) (fun q11 => ?_) (fun q11 => ?_)
  · have hf := (br_if hf).2 q11
    refine lv_iconst (v := 0) hx hb dX0_isBeaten_18 (by decide) ?_
    exact wX0_isBeaten_19 X hf hR (lv_sub hl [] rfl)
  · have hf := (br_if hf).1 q11
    refine lv_iconst (v := 1) hx hb dX0_isBeaten_14 (by decide) ?_
    refine lv_goto (tgt := 19) hx hb dX0_isBeaten_15 (by decide) ?_
    exact wX0_isBeaten_19 X hf hR (lv_sub hl [] rfl)
theorem ctX0_isBeaten {l : Launch} {E : Ge} {b : Bool} {M : Mem} {x1 : Int32} {x2 : Int32} {r : Int32} (h : fX0_isBeaten M x1 x2 = some r) : CT l E yX0_isBeaten cX0_isBeaten 3 (some .boolean) 1 0 0 [.ref (eB E + 21), .int x1, .int x2] (some (.int r)) (sh_ b) (nn b) M (sh_ b) (nn b) M := by
  refine met_of (by decide) (Nat.le_of_ble_eq_true rfl) ?_
  intro p e s m args below meth c X _ hR ls hl
  exact wX0_isBeaten_0 X h hR hl
def fX0_isCovered_42 (M : Mem) (k2 : Int32 → Int32 → Option Int32) (k40 : Option Int32) (k48 : Option Int32) (x1 : Int32) (x2 : Int32) : Option Int32 := nx (x2 + (1 : Int32)) (fun v42 => k2 x1 v42)
def fX0_isCovered_2 (M : Mem) (k40 : Option Int32) (k48 : Option Int32) : Nat → Int32 → Int32 → Option Int32
  | 0, _, _ => none
  | n + 1, x1, x2 => (if (M.1 1 8) ≤ x2 then k48 else (fX0_isBeaten M x1 x2).bind (fun q16 => (if q16 = 0 then fX0_isCovered_42 M (fX0_isCovered_2 M k40 k48 n) k40 k48 x1 x2 else (if inb x2 20 = true then (if inb x1 20 = true then (if ((M.1 24 (ix x2)) &&& ((M.1 24 (ix x1)) ^^^ (-1 : Int32))) = 0 then k40 else fX0_isCovered_42 M (fX0_isCovered_2 M k40 k48 n) k40 k48 x1 x2) else none) else none))))
def fX0_isCovered_40 (M : Mem) : Option Int32 := some (1 : Int32)
def fX0_isCovered_48 (M : Mem) : Option Int32 := some (0 : Int32)
def fX0_isCovered (M : Mem) (x1 : Int32) : Option Int32 := fX0_isCovered_2 M (fX0_isCovered_40 M) (fX0_isCovered_48 M) FU x1 (0 : Int32)
set_option maxHeartbeats 4000000 in
set_option maxRecDepth 100000 in
theorem wX0_isCovered_42 {r : Int32} {M : Mem} {k2 : Int32 → Int32 → Option Int32} {k40 : Option Int32} {k48 : Option Int32} (X : CX E p s m args c meth cX0_isCovered 3 (some .boolean) RX0) (hk2 : ∀ {x1 : Int32} {x2 : Int32} {H : Heap} {locs : List Loc} {ls : Array Slot}, k2 x1 x2 = some r → Rl E (sh_ b) (nn b) s.heap M H locs → lv_has ls 3 [(0, .ref (eB E + 21)), (1, .int x1), (2, .int x2)] → W p l e (rm 2 0 0) s m args below meth c H locs 0 0 (MQ below (qq E (some (.int r)) (sh_ b) (nn b) M) args s 0 0 (fr E)) (F0 m 2 ls [])) (hk40 : ∀ {H : Heap} {locs : List Loc} {ls : Array Slot}, k40 = some r → Rl E (sh_ b) (nn b) s.heap M H locs → lv_has ls 3 [] → W p l e (rm 2 0 0) s m args below meth c H locs 0 0 (MQ below (qq E (some (.int r)) (sh_ b) (nn b) M) args s 0 0 (fr E)) (F0 m 40 ls [])) (hk48 : ∀ {H : Heap} {locs : List Loc} {ls : Array Slot}, k48 = some r → Rl E (sh_ b) (nn b) s.heap M H locs → lv_has ls 3 [] → W p l e (rm 2 0 0) s m args below meth c H locs 0 0 (MQ below (qq E (some (.int r)) (sh_ b) (nn b) M) args s 0 0 (fr E)) (F0 m 48 ls [])) : ∀ {x1 : Int32} {x2 : Int32} {H : Heap} {locs : List Loc} {ls : Array Slot}, fX0_isCovered_42 M k2 k40 k48 x1 x2 = some r → Rl E (sh_ b) (nn b) s.heap M H locs → lv_has ls 3 [(0, .ref (eB E + 21)), (1, .int x1), (2, .int x2)] → W p l e (rm 2 0 0) s m args below meth c H locs 0 0 (MQ below (qq E (some (.int r)) (sh_ b) (nn b) M) args s 0 0 (fr E)) (F0 m 42 ls []) := by
  obtain ⟨hx, hb, hr, hml, hown, hts, hK, hN, hO, hlk, hbs⟩ := id X
  intro x1 x2 H locs ls hf hR hl
  unfold fX0_isCovered_42 at hf
  obtain ⟨v42, e42⟩ : ∃ y : Int32, y = (x2 + (1 : Int32)) := ⟨_, rfl⟩
  have hf := nx_at e42 hf
  refine lv_iinc (v := v42) (lv' := [(2, .int v42), (0, .ref (eB E + 21)), (1, .int x1)]) hx hb dX0_isCovered_42 hl (k := 2) rfl (by rw [e42]; rfl) (by decide) rfl (fun ls hl => ?_)
  refine lv_goto (tgt := 2) hx hb dX0_isCovered_45 (by decide) ?_
  exact hk2 hf hR (lv_sub hl [1, 2, 0] rfl)
set_option maxHeartbeats 4000000 in
set_option maxRecDepth 100000 in
theorem wX0_isCovered_2 {r : Int32} {M : Mem} {k40 : Option Int32} {k48 : Option Int32} (X : CX E p s m args c meth cX0_isCovered 3 (some .boolean) RX0) (hk40 : ∀ {H : Heap} {locs : List Loc} {ls : Array Slot}, k40 = some r → Rl E (sh_ b) (nn b) s.heap M H locs → lv_has ls 3 [] → W p l e (rm 2 0 0) s m args below meth c H locs 0 0 (MQ below (qq E (some (.int r)) (sh_ b) (nn b) M) args s 0 0 (fr E)) (F0 m 40 ls [])) (hk48 : ∀ {H : Heap} {locs : List Loc} {ls : Array Slot}, k48 = some r → Rl E (sh_ b) (nn b) s.heap M H locs → lv_has ls 3 [] → W p l e (rm 2 0 0) s m args below meth c H locs 0 0 (MQ below (qq E (some (.int r)) (sh_ b) (nn b) M) args s 0 0 (fr E)) (F0 m 48 ls [])) : ∀ (n : Nat) {x1 : Int32} {x2 : Int32} {H : Heap} {locs : List Loc} {ls : Array Slot}, fX0_isCovered_2 M k40 k48 n x1 x2 = some r → Rl E (sh_ b) (nn b) s.heap M H locs → lv_has ls 3 [(0, .ref (eB E + 21)), (1, .int x1), (2, .int x2)] → W p l e (rm 2 0 0) s m args below meth c H locs 0 0 (MQ below (qq E (some (.int r)) (sh_ b) (nn b) M) args s 0 0 (fr E)) (F0 m 2 ls []) := by
  obtain ⟨hx, hb, hr, hml, hown, hts, hK, hN, hO, hlk, hbs⟩ := id X
  intro n
  induction n with
  | zero =>
    intro x1 x2 H locs ls hf hR hl
    exact absurd (show none = some _ from hf) (fun h => by cases h)
  | succ n ih =>
    intro x1 x2 H locs ls hf hR hl
    rw [fX0_isCovered_2] at hf
    refine lv_iload_n hx hb dX0_isCovered_2 rfl (lv_at hl 2 rfl) ?_
    refine lv_aload_n hx hb dX0_isCovered_3 rfl (lv_at hl 0 rfl) ?_
    refine x_get hx hb hown hts hK hR kX0 (z_21 b) (j := 0) (by decide) fl_X0_34 (v := .ref (eB E + 1)) rfl dX0_isCovered_4 ?_
    refine x_get hx hb hown hts hK hR kX8 (z_1 b) (j := 8) (by decide) fl_X0_58 (v := .int (M.1 1 8)) rfl dX0_isCovered_7 ?_
    refine lv_icmp_ge (tgt := 48) hx hb dX0_isCovered_10 (by decide) (fun q10 => ?_) (fun q10 => ?_)
    · have hf := (br_if hf).1 q10
      exact hk48 hf hR (lv_sub hl [] rfl)
    · have hf := (br_if hf).2 q10
      refine lv_aload_n hx hb dX0_isCovered_13 rfl (lv_at hl 0 rfl) ?_
      refine lv_iload_n hx hb dX0_isCovered_14 rfl (lv_at hl 1 rfl) ?_
      refine lv_iload_n hx hb dX0_isCovered_15 rfl (lv_at hl 2 rfl) ?_
      obtain ⟨q16, c16, hf⟩ := br_b hf
      refine x_callV (k := 21) (As := [.int x1, .int x2]) (rest := []) (st1 := [.int q16]) X hR (ctX0_isBeaten c16) ml_X0_102 im_X0_isBeaten se_X0_isBeaten in_X0 co_X0_isBeaten yo_X0_isBeaten rfl kX0 (z_21 b) (rm_ok (by decide) (by decide)) rfl hl.1 rfl rfl (Nat.le_of_ble_eq_true rfl) dX0_isCovered_16 ⟨Nat.zero_le _, Nat.zero_le _⟩ (fun H locs hR => ?_)
      refine lv_if_eq (tgt := 42) hx hb dX0_isCovered_19 (by decide) (fun q19 => ?_) (fun q19 => ?_)
      · have hf := (br_if hf).1 q19
        exact wX0_isCovered_42 X (fun hf hR hl => ih hf hR hl) (fun hf hR hl => hk40 hf hR hl) (fun hf hR hl => hk48 hf hR hl) hf hR hl
      · have hf := (br_if hf).2 q19
        refine lv_aload_n hx hb dX0_isCovered_22 rfl (lv_at hl 0 rfl) ?_
        refine x_get hx hb hown hts hK hR kX0 (z_21 b) (j := 3) (by decide) fl_X0_18 (v := .ref (eB E + 24)) rfl dX0_isCovered_23 ?_
        refine lv_iload_n hx hb dX0_isCovered_26 rfl (lv_at hl 2 rfl) ?_
        obtain ⟨g27, hf⟩ := br_g hf
        refine x_iald hx hb hK hR (z_24 b) g27 dX0_isCovered_27 ?_
        refine lv_aload_n hx hb dX0_isCovered_28 rfl (lv_at hl 0 rfl) ?_
        refine x_get hx hb hown hts hK hR kX0 (z_21 b) (j := 3) (by decide) fl_X0_18 (v := .ref (eB E + 24)) rfl dX0_isCovered_29 ?_
        refine lv_iload_n hx hb dX0_isCovered_32 rfl (lv_at hl 1 rfl) ?_
        obtain ⟨g33, hf⟩ := br_g hf
        refine x_iald hx hb hK hR (z_24 b) g33 dX0_isCovered_33 ?_
        refine lv_iconst (v := -1) hx hb dX0_isCovered_34 (by decide) ?_
        refine lv_ixor hx hb dX0_isCovered_35 ?_
        refine lv_iand hx hb dX0_isCovered_36 ?_
        refine lv_if_ne (tgt := 42) hx hb dX0_isCovered_37 (by decide) (fun q37 => ?_) (fun q37 => ?_)
        · have hf := (br_if hf).2 q37
          exact wX0_isCovered_42 X (fun hf hR hl => ih hf hR hl) (fun hf hR hl => hk40 hf hR hl) (fun hf hR hl => hk48 hf hR hl) hf hR hl
        · have hf := (br_if hf).1 q37
          exact hk40 hf hR (lv_sub hl [] rfl)
set_option maxHeartbeats 4000000 in
set_option maxRecDepth 100000 in
theorem wX0_isCovered_40 {r : Int32} {M : Mem} (X : CX E p s m args c meth cX0_isCovered 3 (some .boolean) RX0) : ∀ {H : Heap} {locs : List Loc} {ls : Array Slot}, fX0_isCovered_40 M = some r → Rl E (sh_ b) (nn b) s.heap M H locs → lv_has ls 3 [] → W p l e (rm 2 0 0) s m args below meth c H locs 0 0 (MQ below (qq E (some (.int r)) (sh_ b) (nn b) M) args s 0 0 (fr E)) (F0 m 40 ls []) := by
  obtain ⟨hx, hb, hr, hml, hown, hts, hK, hN, hO, hlk, hbs⟩ := id X
  intro H locs ls hf hR hl
  unfold fX0_isCovered_40 at hf
  refine lv_iconst (v := 1) hx hb dX0_isCovered_40 (by decide) ?_
  cases hf
  exact x_zret hx hb hr hlk hR (by decide) dX0_isCovered_41
set_option maxHeartbeats 4000000 in
set_option maxRecDepth 100000 in
theorem wX0_isCovered_48 {r : Int32} {M : Mem} (X : CX E p s m args c meth cX0_isCovered 3 (some .boolean) RX0) : ∀ {H : Heap} {locs : List Loc} {ls : Array Slot}, fX0_isCovered_48 M = some r → Rl E (sh_ b) (nn b) s.heap M H locs → lv_has ls 3 [] → W p l e (rm 2 0 0) s m args below meth c H locs 0 0 (MQ below (qq E (some (.int r)) (sh_ b) (nn b) M) args s 0 0 (fr E)) (F0 m 48 ls []) := by
  obtain ⟨hx, hb, hr, hml, hown, hts, hK, hN, hO, hlk, hbs⟩ := id X
  intro H locs ls hf hR hl
  unfold fX0_isCovered_48 at hf
  refine lv_iconst (v := 0) hx hb dX0_isCovered_48 (by decide) ?_
  cases hf
  exact x_zret hx hb hr hlk hR (by decide) dX0_isCovered_49
set_option maxHeartbeats 4000000 in
set_option maxRecDepth 100000 in
theorem wX0_isCovered_0 {r : Int32} {M : Mem} (X : CX E p s m args c meth cX0_isCovered 3 (some .boolean) RX0) : ∀ {x1 : Int32} {H : Heap} {locs : List Loc} {ls : Array Slot}, fX0_isCovered M x1 = some r → Rl E (sh_ b) (nn b) s.heap M H locs → lv_has ls 3 [(0, .ref (eB E + 21)), (1, .int x1)] → W p l e (rm 2 0 0) s m args below meth c H locs 0 0 (MQ below (qq E (some (.int r)) (sh_ b) (nn b) M) args s 0 0 (fr E)) (F0 m 0 ls []) := by
  obtain ⟨hx, hb, hr, hml, hown, hts, hK, hN, hO, hlk, hbs⟩ := id X
  intro x1 H locs ls hf hR hl
  unfold fX0_isCovered at hf
  refine lv_iconst (v := 0) hx hb dX0_isCovered_0 (by decide) ?_
  refine lv_istore_n (lv' := [(2, .int (0 : Int32)), (0, .ref (eB E + 21)), (1, .int x1)]) hx hb dX0_isCovered_1 rfl hl (by decide) rfl (fun ls hl => ?_)
  exact wX0_isCovered_2 X (fun hf hR hl => wX0_isCovered_40 X hf hR hl) (fun hf hR hl => wX0_isCovered_48 X hf hR hl) FU hf hR (lv_sub hl [1, 2, 0] rfl)
theorem ctX0_isCovered {l : Launch} {E : Ge} {b : Bool} {M : Mem} {x1 : Int32} {r : Int32} (h : fX0_isCovered M x1 = some r) : CT l E yX0_isCovered cX0_isCovered 3 (some .boolean) 2 0 0 [.ref (eB E + 21), .int x1] (some (.int r)) (sh_ b) (nn b) M (sh_ b) (nn b) M := by
  refine met_of (by decide) (Nat.le_of_ble_eq_true rfl) ?_
  intro p e s m args below meth c X _ hR ls hl
  exact wX0_isCovered_0 X h hR hl
def fX0_leastNeedy_30 (M : Mem) (k4 : Int32 → Int32 → Option Int32) (k36 : Int32 → Option Int32) (x1 : Int32) (x2 : Int32) : Option Int32 := nx (x2 + (1 : Int32)) (fun v30 => k4 x1 v30)
def fX0_leastNeedy_4 (M : Mem) (k36 : Int32 → Option Int32) : Nat → Int32 → Int32 → Option Int32
  | 0, _, _ => none
  | n + 1, x1, x2 => (if (M.1 1 8) ≤ x2 then k36 x1 else (fX0_greatestAgainst M x2).bind (fun q17 => (fX0_greatestAgainst M x1).bind (fun q22 => (if q22 ≤ q17 then fX0_leastNeedy_30 M (fX0_leastNeedy_4 M k36 n) k36 x1 x2 else fX0_leastNeedy_30 M (fX0_leastNeedy_4 M k36 n) k36 x2 x2))))
def fX0_leastNeedy_36 (M : Mem) (x1 : Int32) : Option Int32 := some x1
def fX0_leastNeedy (M : Mem) : Option Int32 := fX0_leastNeedy_4 M (fX0_leastNeedy_36 M) FU (0 : Int32) (1 : Int32)
set_option maxHeartbeats 4000000 in
set_option maxRecDepth 100000 in
theorem wX0_leastNeedy_30 {r : Int32} {M : Mem} {k4 : Int32 → Int32 → Option Int32} {k36 : Int32 → Option Int32} (X : CX E p s m args c meth cX0_leastNeedy 3 (some .int) RX0) (hk4 : ∀ {x1 : Int32} {x2 : Int32} {H : Heap} {locs : List Loc} {ls : Array Slot}, k4 x1 x2 = some r → Rl E (sh_ b) (nn b) s.heap M H locs → lv_has ls 3 [(0, .ref (eB E + 21)), (1, .int x1), (2, .int x2)] → W p l e (rm 3 0 0) s m args below meth c H locs 0 0 (MQ below (qq E (some (.int r)) (sh_ b) (nn b) M) args s 0 0 (fr E)) (F0 m 4 ls [])) (hk36 : ∀ {x1 : Int32} {H : Heap} {locs : List Loc} {ls : Array Slot}, k36 x1 = some r → Rl E (sh_ b) (nn b) s.heap M H locs → lv_has ls 3 [(1, .int x1)] → W p l e (rm 3 0 0) s m args below meth c H locs 0 0 (MQ below (qq E (some (.int r)) (sh_ b) (nn b) M) args s 0 0 (fr E)) (F0 m 36 ls [])) : ∀ {x1 : Int32} {x2 : Int32} {H : Heap} {locs : List Loc} {ls : Array Slot}, fX0_leastNeedy_30 M k4 k36 x1 x2 = some r → Rl E (sh_ b) (nn b) s.heap M H locs → lv_has ls 3 [(0, .ref (eB E + 21)), (1, .int x1), (2, .int x2)] → W p l e (rm 3 0 0) s m args below meth c H locs 0 0 (MQ below (qq E (some (.int r)) (sh_ b) (nn b) M) args s 0 0 (fr E)) (F0 m 30 ls []) := by
  obtain ⟨hx, hb, hr, hml, hown, hts, hK, hN, hO, hlk, hbs⟩ := id X
  intro x1 x2 H locs ls hf hR hl
  unfold fX0_leastNeedy_30 at hf
  obtain ⟨v30, e30⟩ : ∃ y : Int32, y = (x2 + (1 : Int32)) := ⟨_, rfl⟩
  have hf := nx_at e30 hf
  refine lv_iinc (v := v30) (lv' := [(2, .int v30), (0, .ref (eB E + 21)), (1, .int x1)]) hx hb dX0_leastNeedy_30 hl (k := 2) rfl (by rw [e30]; rfl) (by decide) rfl (fun ls hl => ?_)
  refine lv_goto (tgt := 4) hx hb dX0_leastNeedy_33 (by decide) ?_
  exact hk4 hf hR (lv_sub hl [1, 2, 0] rfl)
set_option maxHeartbeats 4000000 in
set_option maxRecDepth 100000 in
theorem wX0_leastNeedy_4 {r : Int32} {M : Mem} {k36 : Int32 → Option Int32} (X : CX E p s m args c meth cX0_leastNeedy 3 (some .int) RX0) (hk36 : ∀ {x1 : Int32} {H : Heap} {locs : List Loc} {ls : Array Slot}, k36 x1 = some r → Rl E (sh_ b) (nn b) s.heap M H locs → lv_has ls 3 [(1, .int x1)] → W p l e (rm 3 0 0) s m args below meth c H locs 0 0 (MQ below (qq E (some (.int r)) (sh_ b) (nn b) M) args s 0 0 (fr E)) (F0 m 36 ls [])) : ∀ (n : Nat) {x1 : Int32} {x2 : Int32} {H : Heap} {locs : List Loc} {ls : Array Slot}, fX0_leastNeedy_4 M k36 n x1 x2 = some r → Rl E (sh_ b) (nn b) s.heap M H locs → lv_has ls 3 [(0, .ref (eB E + 21)), (1, .int x1), (2, .int x2)] → W p l e (rm 3 0 0) s m args below meth c H locs 0 0 (MQ below (qq E (some (.int r)) (sh_ b) (nn b) M) args s 0 0 (fr E)) (F0 m 4 ls []) := by
  obtain ⟨hx, hb, hr, hml, hown, hts, hK, hN, hO, hlk, hbs⟩ := id X
  intro n
  induction n with
  | zero =>
    intro x1 x2 H locs ls hf hR hl
    exact absurd (show none = some _ from hf) (fun h => by cases h)
  | succ n ih =>
    intro x1 x2 H locs ls hf hR hl
    rw [fX0_leastNeedy_4] at hf
    refine lv_iload_n hx hb dX0_leastNeedy_4 rfl (lv_at hl 2 rfl) ?_
    refine lv_aload_n hx hb dX0_leastNeedy_5 rfl (lv_at hl 0 rfl) ?_
    refine x_get hx hb hown hts hK hR kX0 (z_21 b) (j := 0) (by decide) fl_X0_34 (v := .ref (eB E + 1)) rfl dX0_leastNeedy_6 ?_
    refine x_get hx hb hown hts hK hR kX8 (z_1 b) (j := 8) (by decide) fl_X0_58 (v := .int (M.1 1 8)) rfl dX0_leastNeedy_9 ?_
    refine lv_icmp_ge (tgt := 36) hx hb dX0_leastNeedy_12 (by decide) (fun q12 => ?_) (fun q12 => ?_)
    · have hf := (br_if hf).1 q12
      exact hk36 hf hR (lv_sub hl [1] rfl)
    · have hf := (br_if hf).2 q12
      refine lv_aload_n hx hb dX0_leastNeedy_15 rfl (lv_at hl 0 rfl) ?_
      refine lv_iload_n hx hb dX0_leastNeedy_16 rfl (lv_at hl 2 rfl) ?_
      obtain ⟨q17, c17, hf⟩ := br_b hf
      refine x_callV (k := 21) (As := [.int x2]) (rest := []) (st1 := [.int q17]) X hR (ctX0_greatestAgainst c17) ml_X0_96 im_X0_greatestAgainst se_X0_greatestAgainst in_X0 co_X0_greatestAgainst yo_X0_greatestAgainst rfl kX0 (z_21 b) (rm_ok (by decide) (by decide)) rfl hl.1 rfl rfl (Nat.le_of_ble_eq_true rfl) dX0_leastNeedy_17 ⟨Nat.zero_le _, Nat.zero_le _⟩ (fun H locs hR => ?_)
      refine lv_aload_n hx hb dX0_leastNeedy_20 rfl (lv_at hl 0 rfl) ?_
      refine lv_iload_n hx hb dX0_leastNeedy_21 rfl (lv_at hl 1 rfl) ?_
      obtain ⟨q22, c22, hf⟩ := br_b hf
      refine x_callV (k := 21) (As := [.int x1]) (rest := [.int q17]) (st1 := [.int q22, .int q17]) X hR (ctX0_greatestAgainst c22) ml_X0_96 im_X0_greatestAgainst se_X0_greatestAgainst in_X0 co_X0_greatestAgainst yo_X0_greatestAgainst rfl kX0 (z_21 b) (rm_ok (by decide) (by decide)) rfl hl.1 rfl rfl (Nat.le_of_ble_eq_true rfl) dX0_leastNeedy_22 ⟨Nat.zero_le _, Nat.zero_le _⟩ (fun H locs hR => ?_)
      refine lv_icmp_ge (tgt := 30) hx hb dX0_leastNeedy_25 (by decide) (fun q25 => ?_) (fun q25 => ?_)
      · have hf := (br_if hf).1 q25
        exact wX0_leastNeedy_30 X (fun hf hR hl => ih hf hR hl) (fun hf hR hl => hk36 hf hR hl) hf hR hl
      · have hf := (br_if hf).2 q25
        refine lv_iload_n hx hb dX0_leastNeedy_28 rfl (lv_at hl 2 rfl) ?_
        refine lv_istore_n (lv' := [(1, .int x2), (0, .ref (eB E + 21)), (2, .int x2)]) hx hb dX0_leastNeedy_29 rfl hl (by decide) rfl (fun ls hl => ?_)
        exact wX0_leastNeedy_30 X (fun hf hR hl => ih hf hR hl) (fun hf hR hl => hk36 hf hR hl) hf hR (lv_sub hl [1, 0, 2] rfl)
set_option maxHeartbeats 4000000 in
set_option maxRecDepth 100000 in
theorem wX0_leastNeedy_36 {r : Int32} {M : Mem} (X : CX E p s m args c meth cX0_leastNeedy 3 (some .int) RX0) : ∀ {x1 : Int32} {H : Heap} {locs : List Loc} {ls : Array Slot}, fX0_leastNeedy_36 M x1 = some r → Rl E (sh_ b) (nn b) s.heap M H locs → lv_has ls 3 [(1, .int x1)] → W p l e (rm 3 0 0) s m args below meth c H locs 0 0 (MQ below (qq E (some (.int r)) (sh_ b) (nn b) M) args s 0 0 (fr E)) (F0 m 36 ls []) := by
  obtain ⟨hx, hb, hr, hml, hown, hts, hK, hN, hO, hlk, hbs⟩ := id X
  intro x1 H locs ls hf hR hl
  unfold fX0_leastNeedy_36 at hf
  refine lv_iload_n hx hb dX0_leastNeedy_36 rfl (lv_at hl 0 rfl) ?_
  cases hf
  exact x_iret hx hb hr hlk hR dX0_leastNeedy_37
set_option maxHeartbeats 4000000 in
set_option maxRecDepth 100000 in
theorem wX0_leastNeedy_0 {r : Int32} {M : Mem} (X : CX E p s m args c meth cX0_leastNeedy 3 (some .int) RX0) : ∀ {H : Heap} {locs : List Loc} {ls : Array Slot}, fX0_leastNeedy M = some r → Rl E (sh_ b) (nn b) s.heap M H locs → lv_has ls 3 [(0, .ref (eB E + 21))] → W p l e (rm 3 0 0) s m args below meth c H locs 0 0 (MQ below (qq E (some (.int r)) (sh_ b) (nn b) M) args s 0 0 (fr E)) (F0 m 0 ls []) := by
  obtain ⟨hx, hb, hr, hml, hown, hts, hK, hN, hO, hlk, hbs⟩ := id X
  intro H locs ls hf hR hl
  unfold fX0_leastNeedy at hf
  refine lv_iconst (v := 0) hx hb dX0_leastNeedy_0 (by decide) ?_
  refine lv_istore_n (lv' := [(1, .int (0 : Int32)), (0, .ref (eB E + 21))]) hx hb dX0_leastNeedy_1 rfl hl (by decide) rfl (fun ls hl => ?_)
  refine lv_iconst (v := 1) hx hb dX0_leastNeedy_2 (by decide) ?_
  refine lv_istore_n (lv' := [(2, .int (1 : Int32)), (1, .int (0 : Int32)), (0, .ref (eB E + 21))]) hx hb dX0_leastNeedy_3 rfl hl (by decide) rfl (fun ls hl => ?_)
  exact wX0_leastNeedy_4 X (fun hf hR hl => wX0_leastNeedy_36 X hf hR hl) FU hf hR (lv_sub hl [2, 1, 0] rfl)
theorem ctX0_leastNeedy {l : Launch} {E : Ge} {b : Bool} {M : Mem} {r : Int32} (h : fX0_leastNeedy M = some r) : CT l E yX0_leastNeedy cX0_leastNeedy 3 (some .int) 3 0 0 [.ref (eB E + 21)] (some (.int r)) (sh_ b) (nn b) M (sh_ b) (nn b) M := by
  refine met_of (by decide) (Nat.le_of_ble_eq_true rfl) ?_
  intro p e s m args below meth c X _ hR ls hl
  exact wX0_leastNeedy_0 X h hR hl
def fX0_measureSteps_89 (k38 : Int32 → Int32 → Int32 → Int32 → Mem → Option (Int32 × Mem)) (k95 : Int32 → Int32 → Mem → Option (Int32 × Mem)) (x2 : Int32) (x3 : Int32) (x4 : Int32) (x5 : Int32) (M : Mem) : Option (Int32 × Mem) := nx (x5 + (1 : Int32)) (fun v89 => k38 x2 x3 x4 v89 M)
def fX0_measureSteps_38 (k95 : Int32 → Int32 → Mem → Option (Int32 × Mem)) : Nat → Int32 → Int32 → Int32 → Int32 → Mem → Option (Int32 × Mem)
  | 0, _, _, _, _, _ => none
  | n + 1, x2, x3, x4, x5, M => (if (M.1 1 8) ≤ x5 then k95 x2 x3 M else (if inb x5 20 = true then (if (M.1 25 (ix x5)) = (-1 : Int32) then (if inb x5 20 = true then (if ((M.1 24 (ix x5)) &&& x4) = 0 then fX0_measureSteps_89 (fX0_measureSteps_38 k95 n) k95 x2 x3 x4 x5 M else (if inb x5 20 = true then nx (sI M 25 (ix x5) x3) (fun M81 => nx (x2 ||| ((1 : Int32) <<< (x5 &&& 31))) (fun v88 => fX0_measureSteps_89 (fX0_measureSteps_38 k95 n) k95 v88 x3 x4 x5 M81)) else none)) else none) else fX0_measureSteps_89 (fX0_measureSteps_38 k95 n) k95 x2 x3 x4 x5 M) else none))
def fX0_measureSteps_95 (k21 : Int32 → Int32 → Mem → Option (Int32 × Mem)) (k101 : Int32 → Mem → Option (Int32 × Mem)) (x2 : Int32) (x3 : Int32) (M : Mem) : Option (Int32 × Mem) := nx (x3 + (1 : Int32)) (fun v95 => k21 x2 v95 M)
def fX0_measureSteps_21 (k101 : Int32 → Mem → Option (Int32 × Mem)) : Nat → Int32 → Int32 → Mem → Option (Int32 × Mem)
  | 0, _, _, _ => none
  | n + 1, x2, x3, M => (if (M.1 1 8) ≤ x3 then k101 x2 M else fX0_measureSteps_38 (fX0_measureSteps_95 (fX0_measureSteps_21 k101 n) k101) FU x2 x3 x2 (0 : Int32) M)
def fX0_measureSteps_101 (x2 : Int32) (M : Mem) : Option (Int32 × Mem) := some (x2, M)
def fX0_measureSteps (x1 : Int32) (M : Mem) : Option (Int32 × Mem) := (fJ7_fill_53178 25 20 (-1 : Int32) M).bind (fun q5 => (if inb x1 20 = true then nx (sI q5 25 (ix x1) (0 : Int32)) (fun M14 => nx ((1 : Int32) <<< (x1 &&& 31)) (fun v18 => fX0_measureSteps_21 fX0_measureSteps_101 FU v18 (1 : Int32) M14)) else none))
set_option maxHeartbeats 4000000 in
set_option maxRecDepth 100000 in
theorem wX0_measureSteps_89 {r : Int32} {M1 : Mem} {k38 : Int32 → Int32 → Int32 → Int32 → Mem → Option (Int32 × Mem)} {k95 : Int32 → Int32 → Mem → Option (Int32 × Mem)} (X : CX E p s m args c meth cX0_measureSteps 6 (some .int) RX0) (hk38 : ∀ {x2 : Int32} {x3 : Int32} {x4 : Int32} {x5 : Int32} {M : Mem} {H : Heap} {locs : List Loc} {ls : Array Slot}, k38 x2 x3 x4 x5 M = some (r, M1) → Rl E (sh_ b) (nn b) s.heap M H locs → lv_has ls 6 [(0, .ref (eB E + 21)), (2, .int x2), (3, .int x3), (4, .int x4), (5, .int x5)] → W p l e (rm 2 0 0) s m args below meth c H locs 0 0 (MQ below (qq E (some (.int r)) (sh_ b) (nn b) M1) args s 0 0 (fr E)) (F0 m 38 ls [])) (hk95 : ∀ {x2 : Int32} {x3 : Int32} {M : Mem} {H : Heap} {locs : List Loc} {ls : Array Slot}, k95 x2 x3 M = some (r, M1) → Rl E (sh_ b) (nn b) s.heap M H locs → lv_has ls 6 [(0, .ref (eB E + 21)), (2, .int x2), (3, .int x3)] → W p l e (rm 2 0 0) s m args below meth c H locs 0 0 (MQ below (qq E (some (.int r)) (sh_ b) (nn b) M1) args s 0 0 (fr E)) (F0 m 95 ls [])) : ∀ {x2 : Int32} {x3 : Int32} {x4 : Int32} {x5 : Int32} {M : Mem} {H : Heap} {locs : List Loc} {ls : Array Slot}, fX0_measureSteps_89 k38 k95 x2 x3 x4 x5 M = some (r, M1) → Rl E (sh_ b) (nn b) s.heap M H locs → lv_has ls 6 [(0, .ref (eB E + 21)), (2, .int x2), (3, .int x3), (4, .int x4), (5, .int x5)] → W p l e (rm 2 0 0) s m args below meth c H locs 0 0 (MQ below (qq E (some (.int r)) (sh_ b) (nn b) M1) args s 0 0 (fr E)) (F0 m 89 ls []) := by
  obtain ⟨hx, hb, hr, hml, hown, hts, hK, hN, hO, hlk, hbs⟩ := id X
  intro x2 x3 x4 x5 M H locs ls hf hR hl
  unfold fX0_measureSteps_89 at hf
  obtain ⟨v89, e89⟩ : ∃ y : Int32, y = (x5 + (1 : Int32)) := ⟨_, rfl⟩
  have hf := nx_at e89 hf
  refine lv_iinc (v := v89) (lv' := [(5, .int v89), (0, .ref (eB E + 21)), (2, .int x2), (3, .int x3), (4, .int x4)]) hx hb dX0_measureSteps_89 hl (k := 4) rfl (by rw [e89]; rfl) (by decide) rfl (fun ls hl => ?_)
  refine lv_goto (tgt := 38) hx hb dX0_measureSteps_92 (by decide) ?_
  exact hk38 hf hR (lv_sub hl [1, 2, 3, 4, 0] rfl)
set_option maxHeartbeats 4000000 in
set_option maxRecDepth 100000 in
theorem wX0_measureSteps_38 {r : Int32} {M1 : Mem} {k95 : Int32 → Int32 → Mem → Option (Int32 × Mem)} (X : CX E p s m args c meth cX0_measureSteps 6 (some .int) RX0) (hk95 : ∀ {x2 : Int32} {x3 : Int32} {M : Mem} {H : Heap} {locs : List Loc} {ls : Array Slot}, k95 x2 x3 M = some (r, M1) → Rl E (sh_ b) (nn b) s.heap M H locs → lv_has ls 6 [(0, .ref (eB E + 21)), (2, .int x2), (3, .int x3)] → W p l e (rm 2 0 0) s m args below meth c H locs 0 0 (MQ below (qq E (some (.int r)) (sh_ b) (nn b) M1) args s 0 0 (fr E)) (F0 m 95 ls [])) : ∀ (n : Nat) {x2 : Int32} {x3 : Int32} {x4 : Int32} {x5 : Int32} {M : Mem} {H : Heap} {locs : List Loc} {ls : Array Slot}, fX0_measureSteps_38 k95 n x2 x3 x4 x5 M = some (r, M1) → Rl E (sh_ b) (nn b) s.heap M H locs → lv_has ls 6 [(0, .ref (eB E + 21)), (2, .int x2), (3, .int x3), (4, .int x4), (5, .int x5)] → W p l e (rm 2 0 0) s m args below meth c H locs 0 0 (MQ below (qq E (some (.int r)) (sh_ b) (nn b) M1) args s 0 0 (fr E)) (F0 m 38 ls []) := by
  obtain ⟨hx, hb, hr, hml, hown, hts, hK, hN, hO, hlk, hbs⟩ := id X
  intro n
  induction n with
  | zero =>
    intro x2 x3 x4 x5 M H locs ls hf hR hl
    exact absurd (show none = some _ from hf) (fun h => by cases h)
  | succ n ih =>
    intro x2 x3 x4 x5 M H locs ls hf hR hl
    rw [fX0_measureSteps_38] at hf
    refine lv_iload hx hb dX0_measureSteps_38 (lv_at hl 4 rfl) ?_
    refine lv_aload_n hx hb dX0_measureSteps_40 rfl (lv_at hl 0 rfl) ?_
    refine x_get hx hb hown hts hK hR kX0 (z_21 b) (j := 0) (by decide) fl_X0_34 (v := .ref (eB E + 1)) rfl dX0_measureSteps_41 ?_
    refine x_get hx hb hown hts hK hR kX8 (z_1 b) (j := 8) (by decide) fl_X0_58 (v := .int (M.1 1 8)) rfl dX0_measureSteps_44 ?_
    refine lv_icmp_ge (tgt := 95) hx hb dX0_measureSteps_47 (by decide) (fun q47 => ?_) (fun q47 => ?_)
    · have hf := (br_if hf).1 q47
      exact hk95 hf hR (lv_sub hl [0, 1, 2] rfl)
    · have hf := (br_if hf).2 q47
      refine lv_aload_n hx hb dX0_measureSteps_50 rfl (lv_at hl 0 rfl) ?_
      refine x_get hx hb hown hts hK hR kX0 (z_21 b) (j := 4) (by decide) fl_X0_21 (v := .ref (eB E + 25)) rfl dX0_measureSteps_51 ?_
      refine lv_iload hx hb dX0_measureSteps_54 (lv_at hl 4 rfl) ?_
      obtain ⟨g56, hf⟩ := br_g hf
      refine x_iald hx hb hK hR (z_25 b) g56 dX0_measureSteps_56 ?_
      refine lv_iconst (v := -1) hx hb dX0_measureSteps_57 (by decide) ?_
      refine lv_icmp_ne (tgt := 89) hx hb dX0_measureSteps_58 (by decide) (fun q58 => ?_) (fun q58 => ?_)
      · have hf := (br_if hf).2 q58
        exact wX0_measureSteps_89 X (fun hf hR hl => ih hf hR hl) (fun hf hR hl => hk95 hf hR hl) hf hR hl
      · have hf := (br_if hf).1 q58
        refine lv_aload_n hx hb dX0_measureSteps_61 rfl (lv_at hl 0 rfl) ?_
        refine x_get hx hb hown hts hK hR kX0 (z_21 b) (j := 3) (by decide) fl_X0_18 (v := .ref (eB E + 24)) rfl dX0_measureSteps_62 ?_
        refine lv_iload hx hb dX0_measureSteps_65 (lv_at hl 4 rfl) ?_
        obtain ⟨g67, hf⟩ := br_g hf
        refine x_iald hx hb hK hR (z_24 b) g67 dX0_measureSteps_67 ?_
        refine lv_iload hx hb dX0_measureSteps_68 (lv_at hl 3 rfl) ?_
        refine lv_iand hx hb dX0_measureSteps_70 ?_
        refine lv_if_eq (tgt := 89) hx hb dX0_measureSteps_71 (by decide) (fun q71 => ?_) (fun q71 => ?_)
        · have hf := (br_if hf).1 q71
          exact wX0_measureSteps_89 X (fun hf hR hl => ih hf hR hl) (fun hf hR hl => hk95 hf hR hl) hf hR hl
        · have hf := (br_if hf).2 q71
          refine lv_aload_n hx hb dX0_measureSteps_74 rfl (lv_at hl 0 rfl) ?_
          refine x_get hx hb hown hts hK hR kX0 (z_21 b) (j := 4) (by decide) fl_X0_21 (v := .ref (eB E + 25)) rfl dX0_measureSteps_75 ?_
          refine lv_iload hx hb dX0_measureSteps_78 (lv_at hl 4 rfl) ?_
          refine lv_iload_n hx hb dX0_measureSteps_80 rfl (lv_at hl 2 rfl) ?_
          obtain ⟨g81, hf⟩ := br_g hf
          refine x_iast hx hb hK hR (z_25 b) g81 dX0_measureSteps_81 (fun H locs hR => ?_)
          obtain ⟨M81, e81⟩ : ∃ y : Mem, y = (sI M 25 (ix x5) x3) := ⟨_, rfl⟩
          have hf := nx_at e81 hf
          have hR : Rl E (sh_ b) (nn b) s.heap M81 H locs := by rw [e81]; exact hR
          refine lv_iload_n hx hb dX0_measureSteps_82 rfl (lv_at hl 1 rfl) ?_
          refine lv_iconst (v := 1) hx hb dX0_measureSteps_83 (by decide) ?_
          refine lv_iload hx hb dX0_measureSteps_84 (lv_at hl 4 rfl) ?_
          refine lv_ishl hx hb dX0_measureSteps_86 ?_
          refine lv_ior hx hb dX0_measureSteps_87 ?_
          refine lv_topi (fun v88 e88 => ?_)
          have hf := nx_at e88 hf
          refine lv_istore_n (lv' := [(2, .int v88), (0, .ref (eB E + 21)), (3, .int x3), (4, .int x4), (5, .int x5)]) hx hb dX0_measureSteps_88 rfl hl (by decide) rfl (fun ls hl => ?_)
          exact wX0_measureSteps_89 X (fun hf hR hl => ih hf hR hl) (fun hf hR hl => hk95 hf hR hl) hf hR (lv_sub hl [1, 0, 2, 3, 4] rfl)
set_option maxHeartbeats 4000000 in
set_option maxRecDepth 100000 in
theorem wX0_measureSteps_95 {r : Int32} {M1 : Mem} {k21 : Int32 → Int32 → Mem → Option (Int32 × Mem)} {k101 : Int32 → Mem → Option (Int32 × Mem)} (X : CX E p s m args c meth cX0_measureSteps 6 (some .int) RX0) (hk21 : ∀ {x2 : Int32} {x3 : Int32} {M : Mem} {H : Heap} {locs : List Loc} {ls : Array Slot}, k21 x2 x3 M = some (r, M1) → Rl E (sh_ b) (nn b) s.heap M H locs → lv_has ls 6 [(0, .ref (eB E + 21)), (2, .int x2), (3, .int x3)] → W p l e (rm 2 0 0) s m args below meth c H locs 0 0 (MQ below (qq E (some (.int r)) (sh_ b) (nn b) M1) args s 0 0 (fr E)) (F0 m 21 ls [])) (hk101 : ∀ {x2 : Int32} {M : Mem} {H : Heap} {locs : List Loc} {ls : Array Slot}, k101 x2 M = some (r, M1) → Rl E (sh_ b) (nn b) s.heap M H locs → lv_has ls 6 [(2, .int x2)] → W p l e (rm 2 0 0) s m args below meth c H locs 0 0 (MQ below (qq E (some (.int r)) (sh_ b) (nn b) M1) args s 0 0 (fr E)) (F0 m 101 ls [])) : ∀ {x2 : Int32} {x3 : Int32} {M : Mem} {H : Heap} {locs : List Loc} {ls : Array Slot}, fX0_measureSteps_95 k21 k101 x2 x3 M = some (r, M1) → Rl E (sh_ b) (nn b) s.heap M H locs → lv_has ls 6 [(0, .ref (eB E + 21)), (2, .int x2), (3, .int x3)] → W p l e (rm 2 0 0) s m args below meth c H locs 0 0 (MQ below (qq E (some (.int r)) (sh_ b) (nn b) M1) args s 0 0 (fr E)) (F0 m 95 ls []) := by
  obtain ⟨hx, hb, hr, hml, hown, hts, hK, hN, hO, hlk, hbs⟩ := id X
  intro x2 x3 M H locs ls hf hR hl
  unfold fX0_measureSteps_95 at hf
  obtain ⟨v95, e95⟩ : ∃ y : Int32, y = (x3 + (1 : Int32)) := ⟨_, rfl⟩
  have hf := nx_at e95 hf
  refine lv_iinc (v := v95) (lv' := [(3, .int v95), (0, .ref (eB E + 21)), (2, .int x2)]) hx hb dX0_measureSteps_95 hl (k := 2) rfl (by rw [e95]; rfl) (by decide) rfl (fun ls hl => ?_)
  refine lv_goto (tgt := 21) hx hb dX0_measureSteps_98 (by decide) ?_
  exact hk21 hf hR (lv_sub hl [1, 2, 0] rfl)
set_option maxHeartbeats 4000000 in
set_option maxRecDepth 100000 in
theorem wX0_measureSteps_21 {r : Int32} {M1 : Mem} {k101 : Int32 → Mem → Option (Int32 × Mem)} (X : CX E p s m args c meth cX0_measureSteps 6 (some .int) RX0) (hk101 : ∀ {x2 : Int32} {M : Mem} {H : Heap} {locs : List Loc} {ls : Array Slot}, k101 x2 M = some (r, M1) → Rl E (sh_ b) (nn b) s.heap M H locs → lv_has ls 6 [(2, .int x2)] → W p l e (rm 2 0 0) s m args below meth c H locs 0 0 (MQ below (qq E (some (.int r)) (sh_ b) (nn b) M1) args s 0 0 (fr E)) (F0 m 101 ls [])) : ∀ (n : Nat) {x2 : Int32} {x3 : Int32} {M : Mem} {H : Heap} {locs : List Loc} {ls : Array Slot}, fX0_measureSteps_21 k101 n x2 x3 M = some (r, M1) → Rl E (sh_ b) (nn b) s.heap M H locs → lv_has ls 6 [(0, .ref (eB E + 21)), (2, .int x2), (3, .int x3)] → W p l e (rm 2 0 0) s m args below meth c H locs 0 0 (MQ below (qq E (some (.int r)) (sh_ b) (nn b) M1) args s 0 0 (fr E)) (F0 m 21 ls []) := by
  obtain ⟨hx, hb, hr, hml, hown, hts, hK, hN, hO, hlk, hbs⟩ := id X
  intro n
  induction n with
  | zero =>
    intro x2 x3 M H locs ls hf hR hl
    exact absurd (show none = some _ from hf) (fun h => by cases h)
  | succ n ih =>
    intro x2 x3 M H locs ls hf hR hl
    rw [fX0_measureSteps_21] at hf
    refine lv_iload_n hx hb dX0_measureSteps_21 rfl (lv_at hl 2 rfl) ?_
    refine lv_aload_n hx hb dX0_measureSteps_22 rfl (lv_at hl 0 rfl) ?_
    refine x_get hx hb hown hts hK hR kX0 (z_21 b) (j := 0) (by decide) fl_X0_34 (v := .ref (eB E + 1)) rfl dX0_measureSteps_23 ?_
    refine x_get hx hb hown hts hK hR kX8 (z_1 b) (j := 8) (by decide) fl_X0_58 (v := .int (M.1 1 8)) rfl dX0_measureSteps_26 ?_
    refine lv_icmp_ge (tgt := 101) hx hb dX0_measureSteps_29 (by decide) (fun q29 => ?_) (fun q29 => ?_)
    · have hf := (br_if hf).1 q29
      exact hk101 hf hR (lv_sub hl [1] rfl)
    · have hf := (br_if hf).2 q29
      refine lv_iload_n hx hb dX0_measureSteps_32 rfl (lv_at hl 1 rfl) ?_
      refine lv_istore (lv' := [(4, .int x2), (0, .ref (eB E + 21)), (2, .int x2), (3, .int x3)]) hx hb dX0_measureSteps_33 hl (by decide) rfl (fun ls hl => ?_)
      refine lv_iconst (v := 0) hx hb dX0_measureSteps_35 (by decide) ?_
      refine lv_istore (lv' := [(5, .int (0 : Int32)), (4, .int x2), (0, .ref (eB E + 21)), (2, .int x2), (3, .int x3)]) hx hb dX0_measureSteps_36 hl (by decide) rfl (fun ls hl => ?_)
      exact wX0_measureSteps_38 X (fun hf hR hl => wX0_measureSteps_95 X (fun hf hR hl => ih hf hR hl) (fun hf hR hl => hk101 hf hR hl) hf hR hl) FU hf hR (lv_sub hl [2, 3, 4, 1, 0] rfl)
set_option maxHeartbeats 4000000 in
set_option maxRecDepth 100000 in
theorem wX0_measureSteps_101 {r : Int32} {M1 : Mem} (X : CX E p s m args c meth cX0_measureSteps 6 (some .int) RX0) : ∀ {x2 : Int32} {M : Mem} {H : Heap} {locs : List Loc} {ls : Array Slot}, fX0_measureSteps_101 x2 M = some (r, M1) → Rl E (sh_ b) (nn b) s.heap M H locs → lv_has ls 6 [(2, .int x2)] → W p l e (rm 2 0 0) s m args below meth c H locs 0 0 (MQ below (qq E (some (.int r)) (sh_ b) (nn b) M1) args s 0 0 (fr E)) (F0 m 101 ls []) := by
  obtain ⟨hx, hb, hr, hml, hown, hts, hK, hN, hO, hlk, hbs⟩ := id X
  intro x2 M H locs ls hf hR hl
  unfold fX0_measureSteps_101 at hf
  refine lv_iload_n hx hb dX0_measureSteps_101 rfl (lv_at hl 0 rfl) ?_
  cases hf
  exact x_iret hx hb hr hlk hR dX0_measureSteps_102
set_option maxHeartbeats 4000000 in
set_option maxRecDepth 100000 in
theorem wX0_measureSteps_0 {r : Int32} {M1 : Mem} (X : CX E p s m args c meth cX0_measureSteps 6 (some .int) RX0) : ∀ {x1 : Int32} {M : Mem} {H : Heap} {locs : List Loc} {ls : Array Slot}, fX0_measureSteps x1 M = some (r, M1) → Rl E (sh_ b) (nn b) s.heap M H locs → lv_has ls 6 [(0, .ref (eB E + 21)), (1, .int x1)] → W p l e (rm 2 0 0) s m args below meth c H locs 0 0 (MQ below (qq E (some (.int r)) (sh_ b) (nn b) M1) args s 0 0 (fr E)) (F0 m 0 ls []) := by
  obtain ⟨hx, hb, hr, hml, hown, hts, hK, hN, hO, hlk, hbs⟩ := id X
  intro x1 M H locs ls hf hR hl
  unfold fX0_measureSteps at hf
  refine lv_aload_n hx hb dX0_measureSteps_0 rfl (lv_at hl 0 rfl) ?_
  refine x_get hx hb hown hts hK hR kX0 (z_21 b) (j := 4) (by decide) fl_X0_21 (v := .ref (eB E + 25)) rfl dX0_measureSteps_1 ?_
  refine lv_iconst (v := -1) hx hb dX0_measureSteps_4 (by decide) ?_
  obtain ⟨q5, c5, hf⟩ := br_b hf
  refine x_callS (As := [.ref (eB E + 25), .int (-1 : Int32)]) (rest := []) (st1 := []) X hR (ctJ7_fill_53178 (z_25 b) c5) ml_X0_42 st_J7_fill_53178 in_J7 co_J7_fill_53178 yo_J7_fill_53178 (rm_ok (by decide) (by decide)) rfl hl.1 rfl rfl (Nat.le_of_ble_eq_true rfl) dX0_measureSteps_5 ⟨Nat.zero_le _, Nat.zero_le _⟩ (fun H locs hR => ?_)
  refine lv_aload_n hx hb dX0_measureSteps_8 rfl (lv_at hl 0 rfl) ?_
  refine x_get hx hb hown hts hK hR kX0 (z_21 b) (j := 4) (by decide) fl_X0_21 (v := .ref (eB E + 25)) rfl dX0_measureSteps_9 ?_
  refine lv_iload_n hx hb dX0_measureSteps_12 rfl (lv_at hl 1 rfl) ?_
  refine lv_iconst (v := 0) hx hb dX0_measureSteps_13 (by decide) ?_
  obtain ⟨g14, hf⟩ := br_g hf
  refine x_iast hx hb hK hR (z_25 b) g14 dX0_measureSteps_14 (fun H locs hR => ?_)
  obtain ⟨M14, e14⟩ : ∃ y : Mem, y = (sI q5 25 (ix x1) (0 : Int32)) := ⟨_, rfl⟩
  have hf := nx_at e14 hf
  have hR : Rl E (sh_ b) (nn b) s.heap M14 H locs := by rw [e14]; exact hR
  refine lv_iconst (v := 1) hx hb dX0_measureSteps_15 (by decide) ?_
  refine lv_iload_n hx hb dX0_measureSteps_16 rfl (lv_at hl 1 rfl) ?_
  refine lv_ishl hx hb dX0_measureSteps_17 ?_
  refine lv_topi (fun v18 e18 => ?_)
  have hf := nx_at e18 hf
  refine lv_istore_n (lv' := [(2, .int v18), (0, .ref (eB E + 21)), (1, .int x1)]) hx hb dX0_measureSteps_18 rfl hl (by decide) rfl (fun ls hl => ?_)
  refine lv_iconst (v := 1) hx hb dX0_measureSteps_19 (by decide) ?_
  refine lv_istore_n (lv' := [(3, .int (1 : Int32)), (2, .int v18), (0, .ref (eB E + 21)), (1, .int x1)]) hx hb dX0_measureSteps_20 rfl hl (by decide) rfl (fun ls hl => ?_)
  exact wX0_measureSteps_21 X (fun hf hR hl => wX0_measureSteps_101 X hf hR hl) FU hf hR (lv_sub hl [2, 1, 0] rfl)
theorem ctX0_measureSteps {l : Launch} {E : Ge} {b : Bool} {M : Mem} {x1 : Int32} {r : Int32} {M1 : Mem} (h : fX0_measureSteps x1 M = some (r, M1)) : CT l E yX0_measureSteps cX0_measureSteps 6 (some .int) 2 0 0 [.ref (eB E + 21), .int x1] (some (.int r)) (sh_ b) (nn b) M (sh_ b) (nn b) M1 := by
  refine met_of (by decide) (Nat.le_of_ble_eq_true rfl) ?_
  intro p e s m args below meth c X _ hR ls hl
  exact wX0_measureSteps_0 X h hR hl
def fX0_nextFrom_41 (M : Mem) (k2 : Int32 → Int32 → Option Int32) (k39 : Int32 → Option Int32) (k47 : Int32 → Option Int32) (x1 : Int32) (x2 : Int32) : Option Int32 := nx (x2 + (1 : Int32)) (fun v41 => k2 x1 v41)
def fX0_nextFrom_2 (M : Mem) (k39 : Int32 → Option Int32) (k47 : Int32 → Option Int32) : Nat → Int32 → Int32 → Option Int32
  | 0, _, _ => none
  | n + 1, x1, x2 => (if (M.1 1 8) ≤ x2 then k47 x1 else (fX0_isBeaten M x1 x2).bind (fun q16 => (if q16 = 0 then fX0_nextFrom_41 M (fX0_nextFrom_2 M k39 k47 n) k39 k47 x1 x2 else (if inb x2 20 = true then (if inb x1 20 = true then (if (M.1 25 (ix x2)) = ((M.1 25 (ix x1)) - (1 : Int32)) then k39 x2 else fX0_nextFrom_41 M (fX0_nextFrom_2 M k39 k47 n) k39 k47 x1 x2) else none) else none))))
def fX0_nextFrom_39 (M : Mem) (x2 : Int32) : Option Int32 := some x2
def fX0_nextFrom_47 (M : Mem) (x1 : Int32) : Option Int32 := some x1
def fX0_nextFrom (M : Mem) (x1 : Int32) : Option Int32 := fX0_nextFrom_2 M (fX0_nextFrom_39 M) (fX0_nextFrom_47 M) FU x1 (0 : Int32)
set_option maxHeartbeats 4000000 in
set_option maxRecDepth 100000 in
theorem wX0_nextFrom_41 {r : Int32} {M : Mem} {k2 : Int32 → Int32 → Option Int32} {k39 : Int32 → Option Int32} {k47 : Int32 → Option Int32} (X : CX E p s m args c meth cX0_nextFrom 3 (some .int) RX0) (hk2 : ∀ {x1 : Int32} {x2 : Int32} {H : Heap} {locs : List Loc} {ls : Array Slot}, k2 x1 x2 = some r → Rl E (sh_ b) (nn b) s.heap M H locs → lv_has ls 3 [(0, .ref (eB E + 21)), (1, .int x1), (2, .int x2)] → W p l e (rm 2 0 0) s m args below meth c H locs 0 0 (MQ below (qq E (some (.int r)) (sh_ b) (nn b) M) args s 0 0 (fr E)) (F0 m 2 ls [])) (hk39 : ∀ {x2 : Int32} {H : Heap} {locs : List Loc} {ls : Array Slot}, k39 x2 = some r → Rl E (sh_ b) (nn b) s.heap M H locs → lv_has ls 3 [(2, .int x2)] → W p l e (rm 2 0 0) s m args below meth c H locs 0 0 (MQ below (qq E (some (.int r)) (sh_ b) (nn b) M) args s 0 0 (fr E)) (F0 m 39 ls [])) (hk47 : ∀ {x1 : Int32} {H : Heap} {locs : List Loc} {ls : Array Slot}, k47 x1 = some r → Rl E (sh_ b) (nn b) s.heap M H locs → lv_has ls 3 [(1, .int x1)] → W p l e (rm 2 0 0) s m args below meth c H locs 0 0 (MQ below (qq E (some (.int r)) (sh_ b) (nn b) M) args s 0 0 (fr E)) (F0 m 47 ls [])) : ∀ {x1 : Int32} {x2 : Int32} {H : Heap} {locs : List Loc} {ls : Array Slot}, fX0_nextFrom_41 M k2 k39 k47 x1 x2 = some r → Rl E (sh_ b) (nn b) s.heap M H locs → lv_has ls 3 [(0, .ref (eB E + 21)), (1, .int x1), (2, .int x2)] → W p l e (rm 2 0 0) s m args below meth c H locs 0 0 (MQ below (qq E (some (.int r)) (sh_ b) (nn b) M) args s 0 0 (fr E)) (F0 m 41 ls []) := by
  obtain ⟨hx, hb, hr, hml, hown, hts, hK, hN, hO, hlk, hbs⟩ := id X
  intro x1 x2 H locs ls hf hR hl
  unfold fX0_nextFrom_41 at hf
  obtain ⟨v41, e41⟩ : ∃ y : Int32, y = (x2 + (1 : Int32)) := ⟨_, rfl⟩
  have hf := nx_at e41 hf
  refine lv_iinc (v := v41) (lv' := [(2, .int v41), (0, .ref (eB E + 21)), (1, .int x1)]) hx hb dX0_nextFrom_41 hl (k := 2) rfl (by rw [e41]; rfl) (by decide) rfl (fun ls hl => ?_)
  refine lv_goto (tgt := 2) hx hb dX0_nextFrom_44 (by decide) ?_
  exact hk2 hf hR (lv_sub hl [1, 2, 0] rfl)
set_option maxHeartbeats 4000000 in
set_option maxRecDepth 100000 in
theorem wX0_nextFrom_2 {r : Int32} {M : Mem} {k39 : Int32 → Option Int32} {k47 : Int32 → Option Int32} (X : CX E p s m args c meth cX0_nextFrom 3 (some .int) RX0) (hk39 : ∀ {x2 : Int32} {H : Heap} {locs : List Loc} {ls : Array Slot}, k39 x2 = some r → Rl E (sh_ b) (nn b) s.heap M H locs → lv_has ls 3 [(2, .int x2)] → W p l e (rm 2 0 0) s m args below meth c H locs 0 0 (MQ below (qq E (some (.int r)) (sh_ b) (nn b) M) args s 0 0 (fr E)) (F0 m 39 ls [])) (hk47 : ∀ {x1 : Int32} {H : Heap} {locs : List Loc} {ls : Array Slot}, k47 x1 = some r → Rl E (sh_ b) (nn b) s.heap M H locs → lv_has ls 3 [(1, .int x1)] → W p l e (rm 2 0 0) s m args below meth c H locs 0 0 (MQ below (qq E (some (.int r)) (sh_ b) (nn b) M) args s 0 0 (fr E)) (F0 m 47 ls [])) : ∀ (n : Nat) {x1 : Int32} {x2 : Int32} {H : Heap} {locs : List Loc} {ls : Array Slot}, fX0_nextFrom_2 M k39 k47 n x1 x2 = some r → Rl E (sh_ b) (nn b) s.heap M H locs → lv_has ls 3 [(0, .ref (eB E + 21)), (1, .int x1), (2, .int x2)] → W p l e (rm 2 0 0) s m args below meth c H locs 0 0 (MQ below (qq E (some (.int r)) (sh_ b) (nn b) M) args s 0 0 (fr E)) (F0 m 2 ls []) := by
  obtain ⟨hx, hb, hr, hml, hown, hts, hK, hN, hO, hlk, hbs⟩ := id X
  intro n
  induction n with
  | zero =>
    intro x1 x2 H locs ls hf hR hl
    exact absurd (show none = some _ from hf) (fun h => by cases h)
  | succ n ih =>
    intro x1 x2 H locs ls hf hR hl
    rw [fX0_nextFrom_2] at hf
    refine lv_iload_n hx hb dX0_nextFrom_2 rfl (lv_at hl 2 rfl) ?_
    refine lv_aload_n hx hb dX0_nextFrom_3 rfl (lv_at hl 0 rfl) ?_
    refine x_get hx hb hown hts hK hR kX0 (z_21 b) (j := 0) (by decide) fl_X0_34 (v := .ref (eB E + 1)) rfl dX0_nextFrom_4 ?_
    refine x_get hx hb hown hts hK hR kX8 (z_1 b) (j := 8) (by decide) fl_X0_58 (v := .int (M.1 1 8)) rfl dX0_nextFrom_7 ?_
    refine lv_icmp_ge (tgt := 47) hx hb dX0_nextFrom_10 (by decide) (fun q10 => ?_) (fun q10 => ?_)
    · have hf := (br_if hf).1 q10
      exact hk47 hf hR (lv_sub hl [1] rfl)
    · have hf := (br_if hf).2 q10
      refine lv_aload_n hx hb dX0_nextFrom_13 rfl (lv_at hl 0 rfl) ?_
      refine lv_iload_n hx hb dX0_nextFrom_14 rfl (lv_at hl 1 rfl) ?_
      refine lv_iload_n hx hb dX0_nextFrom_15 rfl (lv_at hl 2 rfl) ?_
      obtain ⟨q16, c16, hf⟩ := br_b hf
      refine x_callV (k := 21) (As := [.int x1, .int x2]) (rest := []) (st1 := [.int q16]) X hR (ctX0_isBeaten c16) ml_X0_102 im_X0_isBeaten se_X0_isBeaten in_X0 co_X0_isBeaten yo_X0_isBeaten rfl kX0 (z_21 b) (rm_ok (by decide) (by decide)) rfl hl.1 rfl rfl (Nat.le_of_ble_eq_true rfl) dX0_nextFrom_16 ⟨Nat.zero_le _, Nat.zero_le _⟩ (fun H locs hR => ?_)
      refine lv_if_eq (tgt := 41) hx hb dX0_nextFrom_19 (by decide) (fun q19 => ?_) (fun q19 => ?_)
      · have hf := (br_if hf).1 q19
        exact wX0_nextFrom_41 X (fun hf hR hl => ih hf hR hl) (fun hf hR hl => hk39 hf hR hl) (fun hf hR hl => hk47 hf hR hl) hf hR hl
      · have hf := (br_if hf).2 q19
        refine lv_aload_n hx hb dX0_nextFrom_22 rfl (lv_at hl 0 rfl) ?_
        refine x_get hx hb hown hts hK hR kX0 (z_21 b) (j := 4) (by decide) fl_X0_21 (v := .ref (eB E + 25)) rfl dX0_nextFrom_23 ?_
        refine lv_iload_n hx hb dX0_nextFrom_26 rfl (lv_at hl 2 rfl) ?_
        obtain ⟨g27, hf⟩ := br_g hf
        refine x_iald hx hb hK hR (z_25 b) g27 dX0_nextFrom_27 ?_
        refine lv_aload_n hx hb dX0_nextFrom_28 rfl (lv_at hl 0 rfl) ?_
        refine x_get hx hb hown hts hK hR kX0 (z_21 b) (j := 4) (by decide) fl_X0_21 (v := .ref (eB E + 25)) rfl dX0_nextFrom_29 ?_
        refine lv_iload_n hx hb dX0_nextFrom_32 rfl (lv_at hl 1 rfl) ?_
        obtain ⟨g33, hf⟩ := br_g hf
        refine x_iald hx hb hK hR (z_25 b) g33 dX0_nextFrom_33 ?_
        refine lv_iconst (v := 1) hx hb dX0_nextFrom_34 (by decide) ?_
        refine lv_isub hx hb dX0_nextFrom_35 ?_
        refine lv_icmp_ne (tgt := 41) hx hb dX0_nextFrom_36 (by decide) (fun q36 => ?_) (fun q36 => ?_)
        · have hf := (br_if hf).2 q36
          exact wX0_nextFrom_41 X (fun hf hR hl => ih hf hR hl) (fun hf hR hl => hk39 hf hR hl) (fun hf hR hl => hk47 hf hR hl) hf hR hl
        · have hf := (br_if hf).1 q36
          exact hk39 hf hR (lv_sub hl [2] rfl)
set_option maxHeartbeats 4000000 in
set_option maxRecDepth 100000 in
theorem wX0_nextFrom_39 {r : Int32} {M : Mem} (X : CX E p s m args c meth cX0_nextFrom 3 (some .int) RX0) : ∀ {x2 : Int32} {H : Heap} {locs : List Loc} {ls : Array Slot}, fX0_nextFrom_39 M x2 = some r → Rl E (sh_ b) (nn b) s.heap M H locs → lv_has ls 3 [(2, .int x2)] → W p l e (rm 2 0 0) s m args below meth c H locs 0 0 (MQ below (qq E (some (.int r)) (sh_ b) (nn b) M) args s 0 0 (fr E)) (F0 m 39 ls []) := by
  obtain ⟨hx, hb, hr, hml, hown, hts, hK, hN, hO, hlk, hbs⟩ := id X
  intro x2 H locs ls hf hR hl
  unfold fX0_nextFrom_39 at hf
  refine lv_iload_n hx hb dX0_nextFrom_39 rfl (lv_at hl 0 rfl) ?_
  cases hf
  exact x_iret hx hb hr hlk hR dX0_nextFrom_40
set_option maxHeartbeats 4000000 in
set_option maxRecDepth 100000 in
theorem wX0_nextFrom_47 {r : Int32} {M : Mem} (X : CX E p s m args c meth cX0_nextFrom 3 (some .int) RX0) : ∀ {x1 : Int32} {H : Heap} {locs : List Loc} {ls : Array Slot}, fX0_nextFrom_47 M x1 = some r → Rl E (sh_ b) (nn b) s.heap M H locs → lv_has ls 3 [(1, .int x1)] → W p l e (rm 2 0 0) s m args below meth c H locs 0 0 (MQ below (qq E (some (.int r)) (sh_ b) (nn b) M) args s 0 0 (fr E)) (F0 m 47 ls []) := by
  obtain ⟨hx, hb, hr, hml, hown, hts, hK, hN, hO, hlk, hbs⟩ := id X
  intro x1 H locs ls hf hR hl
  unfold fX0_nextFrom_47 at hf
  refine lv_iload_n hx hb dX0_nextFrom_47 rfl (lv_at hl 0 rfl) ?_
  cases hf
  exact x_iret hx hb hr hlk hR dX0_nextFrom_48
set_option maxHeartbeats 4000000 in
set_option maxRecDepth 100000 in
theorem wX0_nextFrom_0 {r : Int32} {M : Mem} (X : CX E p s m args c meth cX0_nextFrom 3 (some .int) RX0) : ∀ {x1 : Int32} {H : Heap} {locs : List Loc} {ls : Array Slot}, fX0_nextFrom M x1 = some r → Rl E (sh_ b) (nn b) s.heap M H locs → lv_has ls 3 [(0, .ref (eB E + 21)), (1, .int x1)] → W p l e (rm 2 0 0) s m args below meth c H locs 0 0 (MQ below (qq E (some (.int r)) (sh_ b) (nn b) M) args s 0 0 (fr E)) (F0 m 0 ls []) := by
  obtain ⟨hx, hb, hr, hml, hown, hts, hK, hN, hO, hlk, hbs⟩ := id X
  intro x1 H locs ls hf hR hl
  unfold fX0_nextFrom at hf
  refine lv_iconst (v := 0) hx hb dX0_nextFrom_0 (by decide) ?_
  refine lv_istore_n (lv' := [(2, .int (0 : Int32)), (0, .ref (eB E + 21)), (1, .int x1)]) hx hb dX0_nextFrom_1 rfl hl (by decide) rfl (fun ls hl => ?_)
  exact wX0_nextFrom_2 X (fun hf hR hl => wX0_nextFrom_39 X hf hR hl) (fun hf hR hl => wX0_nextFrom_47 X hf hR hl) FU hf hR (lv_sub hl [1, 2, 0] rfl)
theorem ctX0_nextFrom {l : Launch} {E : Ge} {b : Bool} {M : Mem} {x1 : Int32} {r : Int32} (h : fX0_nextFrom M x1 = some r) : CT l E yX0_nextFrom cX0_nextFrom 3 (some .int) 2 0 0 [.ref (eB E + 21), .int x1] (some (.int r)) (sh_ b) (nn b) M (sh_ b) (nn b) M := by
  refine met_of (by decide) (Nat.le_of_ble_eq_true rfl) ?_
  intro p e s m args below meth c X _ hR ls hl
  exact wX0_nextFrom_0 X h hR hl
def fX0_reachingAll_42 (k16 : Int32 → Int32 → Int32 → Mem → Option (Int32 × Mem)) (k48 : Int32 → Mem → Option (Int32 × Mem)) (x1 : Int32) (x2 : Int32) (x3 : Int32) (M : Mem) : Option (Int32 × Mem) := nx (x3 + (1 : Int32)) (fun v42 => k16 x1 x2 v42 M)
def fX0_reachingAll_16 (k48 : Int32 → Mem → Option (Int32 × Mem)) : Nat → Int32 → Int32 → Int32 → Mem → Option (Int32 × Mem)
  | 0, _, _, _, _ => none
  | n + 1, x1, x2, x3, M => (if (M.1 1 8) ≤ x3 then k48 x2 M else (fX0_measureSteps x3 M).bind (fun q29 => (if q29.1 = x1 then nx (x2 ||| ((1 : Int32) <<< (x3 &&& 31))) (fun v41 => fX0_reachingAll_42 (fX0_reachingAll_16 k48 n) k48 x1 v41 x3 (q29.2)) else fX0_reachingAll_42 (fX0_reachingAll_16 k48 n) k48 x1 x2 x3 (q29.2))))
def fX0_reachingAll_48 (x2 : Int32) (M : Mem) : Option (Int32 × Mem) := some (x2, M)
def fX0_reachingAll (M : Mem) : Option (Int32 × Mem) := nx (((1 : Int32) <<< ((M.1 1 8) &&& 31)) - (1 : Int32)) (fun v11 => fX0_reachingAll_16 fX0_reachingAll_48 FU v11 (0 : Int32) (0 : Int32) M)
set_option maxHeartbeats 4000000 in
set_option maxRecDepth 100000 in
theorem wX0_reachingAll_42 {r : Int32} {M1 : Mem} {k16 : Int32 → Int32 → Int32 → Mem → Option (Int32 × Mem)} {k48 : Int32 → Mem → Option (Int32 × Mem)} (X : CX E p s m args c meth cX0_reachingAll 4 (some .int) RX0) (hk16 : ∀ {x1 : Int32} {x2 : Int32} {x3 : Int32} {M : Mem} {H : Heap} {locs : List Loc} {ls : Array Slot}, k16 x1 x2 x3 M = some (r, M1) → Rl E (sh_ b) (nn b) s.heap M H locs → lv_has ls 4 [(0, .ref (eB E + 21)), (1, .int x1), (2, .int x2), (3, .int x3)] → W p l e (rm 3 0 0) s m args below meth c H locs 0 0 (MQ below (qq E (some (.int r)) (sh_ b) (nn b) M1) args s 0 0 (fr E)) (F0 m 16 ls [])) (hk48 : ∀ {x2 : Int32} {M : Mem} {H : Heap} {locs : List Loc} {ls : Array Slot}, k48 x2 M = some (r, M1) → Rl E (sh_ b) (nn b) s.heap M H locs → lv_has ls 4 [(2, .int x2)] → W p l e (rm 3 0 0) s m args below meth c H locs 0 0 (MQ below (qq E (some (.int r)) (sh_ b) (nn b) M1) args s 0 0 (fr E)) (F0 m 48 ls [])) : ∀ {x1 : Int32} {x2 : Int32} {x3 : Int32} {M : Mem} {H : Heap} {locs : List Loc} {ls : Array Slot}, fX0_reachingAll_42 k16 k48 x1 x2 x3 M = some (r, M1) → Rl E (sh_ b) (nn b) s.heap M H locs → lv_has ls 4 [(0, .ref (eB E + 21)), (1, .int x1), (2, .int x2), (3, .int x3)] → W p l e (rm 3 0 0) s m args below meth c H locs 0 0 (MQ below (qq E (some (.int r)) (sh_ b) (nn b) M1) args s 0 0 (fr E)) (F0 m 42 ls []) := by
  obtain ⟨hx, hb, hr, hml, hown, hts, hK, hN, hO, hlk, hbs⟩ := id X
  intro x1 x2 x3 M H locs ls hf hR hl
  unfold fX0_reachingAll_42 at hf
  obtain ⟨v42, e42⟩ : ∃ y : Int32, y = (x3 + (1 : Int32)) := ⟨_, rfl⟩
  have hf := nx_at e42 hf
  refine lv_iinc (v := v42) (lv' := [(3, .int v42), (0, .ref (eB E + 21)), (1, .int x1), (2, .int x2)]) hx hb dX0_reachingAll_42 hl (k := 3) rfl (by rw [e42]; rfl) (by decide) rfl (fun ls hl => ?_)
  refine lv_goto (tgt := 16) hx hb dX0_reachingAll_45 (by decide) ?_
  exact hk16 hf hR (lv_sub hl [1, 2, 3, 0] rfl)
set_option maxHeartbeats 4000000 in
set_option maxRecDepth 100000 in
theorem wX0_reachingAll_16 {r : Int32} {M1 : Mem} {k48 : Int32 → Mem → Option (Int32 × Mem)} (X : CX E p s m args c meth cX0_reachingAll 4 (some .int) RX0) (hk48 : ∀ {x2 : Int32} {M : Mem} {H : Heap} {locs : List Loc} {ls : Array Slot}, k48 x2 M = some (r, M1) → Rl E (sh_ b) (nn b) s.heap M H locs → lv_has ls 4 [(2, .int x2)] → W p l e (rm 3 0 0) s m args below meth c H locs 0 0 (MQ below (qq E (some (.int r)) (sh_ b) (nn b) M1) args s 0 0 (fr E)) (F0 m 48 ls [])) : ∀ (n : Nat) {x1 : Int32} {x2 : Int32} {x3 : Int32} {M : Mem} {H : Heap} {locs : List Loc} {ls : Array Slot}, fX0_reachingAll_16 k48 n x1 x2 x3 M = some (r, M1) → Rl E (sh_ b) (nn b) s.heap M H locs → lv_has ls 4 [(0, .ref (eB E + 21)), (1, .int x1), (2, .int x2), (3, .int x3)] → W p l e (rm 3 0 0) s m args below meth c H locs 0 0 (MQ below (qq E (some (.int r)) (sh_ b) (nn b) M1) args s 0 0 (fr E)) (F0 m 16 ls []) := by
  obtain ⟨hx, hb, hr, hml, hown, hts, hK, hN, hO, hlk, hbs⟩ := id X
  intro n
  induction n with
  | zero =>
    intro x1 x2 x3 M H locs ls hf hR hl
    exact absurd (show none = some _ from hf) (fun h => by cases h)
  | succ n ih =>
    intro x1 x2 x3 M H locs ls hf hR hl
    rw [fX0_reachingAll_16] at hf
    refine lv_iload_n hx hb dX0_reachingAll_16 rfl (lv_at hl 3 rfl) ?_
    refine lv_aload_n hx hb dX0_reachingAll_17 rfl (lv_at hl 0 rfl) ?_
    refine x_get hx hb hown hts hK hR kX0 (z_21 b) (j := 0) (by decide) fl_X0_34 (v := .ref (eB E + 1)) rfl dX0_reachingAll_18 ?_
    refine x_get hx hb hown hts hK hR kX8 (z_1 b) (j := 8) (by decide) fl_X0_58 (v := .int (M.1 1 8)) rfl dX0_reachingAll_21 ?_
    refine lv_icmp_ge (tgt := 48) hx hb dX0_reachingAll_24 (by decide) (fun q24 => ?_) (fun q24 => ?_)
    · have hf := (br_if hf).1 q24
      exact hk48 hf hR (lv_sub hl [2] rfl)
    · have hf := (br_if hf).2 q24
      refine lv_aload_n hx hb dX0_reachingAll_27 rfl (lv_at hl 0 rfl) ?_
      refine lv_iload_n hx hb dX0_reachingAll_28 rfl (lv_at hl 3 rfl) ?_
      obtain ⟨q29, c29, hf⟩ := br_b hf
      refine x_callV (k := 21) (As := [.int x3]) (rest := []) (st1 := [.int q29.1]) X hR (ctX0_measureSteps c29) ml_X0_105 im_X0_measureSteps se_X0_measureSteps in_X0 co_X0_measureSteps yo_X0_measureSteps rfl kX0 (z_21 b) (rm_ok (by decide) (by decide)) rfl hl.1 rfl rfl (Nat.le_of_ble_eq_true rfl) dX0_reachingAll_29 ⟨Nat.zero_le _, Nat.zero_le _⟩ (fun H locs hR => ?_)
      refine lv_iload_n hx hb dX0_reachingAll_32 rfl (lv_at hl 1 rfl) ?_
      refine lv_icmp_ne (tgt := 42) hx hb dX0_reachingAll_33 (by decide) (fun q33 => ?_) (fun q33 => ?_)
      · have hf := (br_if hf).2 q33
        exact wX0_reachingAll_42 X (fun hf hR hl => ih hf hR hl) (fun hf hR hl => hk48 hf hR hl) hf hR hl
      · have hf := (br_if hf).1 q33
        refine lv_iload_n hx hb dX0_reachingAll_36 rfl (lv_at hl 2 rfl) ?_
        refine lv_iconst (v := 1) hx hb dX0_reachingAll_37 (by decide) ?_
        refine lv_iload_n hx hb dX0_reachingAll_38 rfl (lv_at hl 3 rfl) ?_
        refine lv_ishl hx hb dX0_reachingAll_39 ?_
        refine lv_ior hx hb dX0_reachingAll_40 ?_
        refine lv_topi (fun v41 e41 => ?_)
        have hf := nx_at e41 hf
        refine lv_istore_n (lv' := [(2, .int v41), (0, .ref (eB E + 21)), (1, .int x1), (3, .int x3)]) hx hb dX0_reachingAll_41 rfl hl (by decide) rfl (fun ls hl => ?_)
        exact wX0_reachingAll_42 X (fun hf hR hl => ih hf hR hl) (fun hf hR hl => hk48 hf hR hl) hf hR (lv_sub hl [1, 2, 0, 3] rfl)
set_option maxHeartbeats 4000000 in
set_option maxRecDepth 100000 in
theorem wX0_reachingAll_48 {r : Int32} {M1 : Mem} (X : CX E p s m args c meth cX0_reachingAll 4 (some .int) RX0) : ∀ {x2 : Int32} {M : Mem} {H : Heap} {locs : List Loc} {ls : Array Slot}, fX0_reachingAll_48 x2 M = some (r, M1) → Rl E (sh_ b) (nn b) s.heap M H locs → lv_has ls 4 [(2, .int x2)] → W p l e (rm 3 0 0) s m args below meth c H locs 0 0 (MQ below (qq E (some (.int r)) (sh_ b) (nn b) M1) args s 0 0 (fr E)) (F0 m 48 ls []) := by
  obtain ⟨hx, hb, hr, hml, hown, hts, hK, hN, hO, hlk, hbs⟩ := id X
  intro x2 M H locs ls hf hR hl
  unfold fX0_reachingAll_48 at hf
  refine lv_iload_n hx hb dX0_reachingAll_48 rfl (lv_at hl 0 rfl) ?_
  cases hf
  exact x_iret hx hb hr hlk hR dX0_reachingAll_49
set_option maxHeartbeats 4000000 in
set_option maxRecDepth 100000 in
theorem wX0_reachingAll_0 {r : Int32} {M1 : Mem} (X : CX E p s m args c meth cX0_reachingAll 4 (some .int) RX0) : ∀ {M : Mem} {H : Heap} {locs : List Loc} {ls : Array Slot}, fX0_reachingAll M = some (r, M1) → Rl E (sh_ b) (nn b) s.heap M H locs → lv_has ls 4 [(0, .ref (eB E + 21))] → W p l e (rm 3 0 0) s m args below meth c H locs 0 0 (MQ below (qq E (some (.int r)) (sh_ b) (nn b) M1) args s 0 0 (fr E)) (F0 m 0 ls []) := by
  obtain ⟨hx, hb, hr, hml, hown, hts, hK, hN, hO, hlk, hbs⟩ := id X
  intro M H locs ls hf hR hl
  unfold fX0_reachingAll at hf
  refine lv_iconst (v := 1) hx hb dX0_reachingAll_0 (by decide) ?_
  refine lv_aload_n hx hb dX0_reachingAll_1 rfl (lv_at hl 0 rfl) ?_
  refine x_get hx hb hown hts hK hR kX0 (z_21 b) (j := 0) (by decide) fl_X0_34 (v := .ref (eB E + 1)) rfl dX0_reachingAll_2 ?_
  refine x_get hx hb hown hts hK hR kX8 (z_1 b) (j := 8) (by decide) fl_X0_58 (v := .int (M.1 1 8)) rfl dX0_reachingAll_5 ?_
  refine lv_ishl hx hb dX0_reachingAll_8 ?_
  refine lv_iconst (v := 1) hx hb dX0_reachingAll_9 (by decide) ?_
  refine lv_isub hx hb dX0_reachingAll_10 ?_
  refine lv_topi (fun v11 e11 => ?_)
  have hf := nx_at e11 hf
  refine lv_istore_n (lv' := [(1, .int v11), (0, .ref (eB E + 21))]) hx hb dX0_reachingAll_11 rfl hl (by decide) rfl (fun ls hl => ?_)
  refine lv_iconst (v := 0) hx hb dX0_reachingAll_12 (by decide) ?_
  refine lv_istore_n (lv' := [(2, .int (0 : Int32)), (1, .int v11), (0, .ref (eB E + 21))]) hx hb dX0_reachingAll_13 rfl hl (by decide) rfl (fun ls hl => ?_)
  refine lv_iconst (v := 0) hx hb dX0_reachingAll_14 (by decide) ?_
  refine lv_istore_n (lv' := [(3, .int (0 : Int32)), (2, .int (0 : Int32)), (1, .int v11), (0, .ref (eB E + 21))]) hx hb dX0_reachingAll_15 rfl hl (by decide) rfl (fun ls hl => ?_)
  exact wX0_reachingAll_16 X (fun hf hR hl => wX0_reachingAll_48 X hf hR hl) FU hf hR (lv_sub hl [3, 2, 1, 0] rfl)
theorem ctX0_reachingAll {l : Launch} {E : Ge} {b : Bool} {M : Mem} {r : Int32} {M1 : Mem} (h : fX0_reachingAll M = some (r, M1)) : CT l E yX0_reachingAll cX0_reachingAll 4 (some .int) 3 0 0 [.ref (eB E + 21)] (some (.int r)) (sh_ b) (nn b) M (sh_ b) (nn b) M1 := by
  refine met_of (by decide) (Nat.le_of_ble_eq_true rfl) ?_
  intro p e s m args below meth c X _ hR ls hl
  exact wX0_reachingAll_0 X h hR hl
def fX0_refresh_61 (k83 : Mem → Option Mem) : Nat → Int32 → Mem → Option Mem
  | 0, _, _ => none
  | n + 1, x1, M => (if (M.1 1 0) ≤ x1 then k83 M else (fX0_addVotesOf x1 M).bind (fun q74 => nx (x1 + (1 : Int32)) (fun v77 => fX0_refresh_61 k83 n v77 q74)))
def fX0_refresh_151 (k95 : Int32 → Mem → Option Mem) (k157 : Mem → Option Mem) (x1 : Int32) (M : Mem) : Option Mem := nx (x1 + (1 : Int32)) (fun v151 => k95 v151 M)
def fX0_refresh_95 (k157 : Mem → Option Mem) : Nat → Int32 → Mem → Option Mem
  | 0, _, _ => none
  | n + 1, x1, M => (if (M.1 1 8) ≤ x1 then k157 M else (fX0_findBeaters x1 M).bind (fun q108 => (if inb x1 20 = true then (fJ6_bitCount_0f7a4 q108 (q108.1 24 (ix x1))).bind (fun q122 => nx (sI q108 21 5 ((q108.1 21 5) + q122)) (fun M126 => (if (M126.1 21 6) = (-1 : Int32) then (if inb x1 20 = true then (if (M126.1 24 (ix x1)) = 0 then nx (sI M126 21 6 x1) (fun M148 => fX0_refresh_151 (fX0_refresh_95 k157 n) k157 x1 M148) else fX0_refresh_151 (fX0_refresh_95 k157 n) k157 x1 M126) else none) else fX0_refresh_151 (fX0_refresh_95 k157 n) k157 x1 M126))) else none)))
def fX0_refresh_157 (M : Mem) : Option Mem := some M
def fX0_refresh_83 (M : Mem) : Option Mem := nx (sI M 21 5 (0 : Int32)) (fun M85 => nx (sI M85 21 6 (-1 : Int32)) (fun M90 => fX0_refresh_95 fX0_refresh_157 FU (0 : Int32) M90))
def fX0_refresh_29 (M : Mem) : Option Mem := nx (sI M 21 7 (M.1 1 14)) (fun M37 => nx (sI M37 21 8 (M37.1 1 15)) (fun M48 => (fJ7_fill_53178 22 400 (0 : Int32) M48).bind (fun q56 => fX0_refresh_61 fX0_refresh_83 FU (0 : Int32) q56)))
def fX0_refresh (M : Mem) : Option Mem := (if (M.1 21 7) = (M.1 1 14) then (if (M.1 21 8) = (M.1 1 15) then some M else fX0_refresh_29 M) else fX0_refresh_29 M)
set_option maxHeartbeats 4000000 in
set_option maxRecDepth 100000 in
theorem wX0_refresh_61 {M1 : Mem} {k83 : Mem → Option Mem} (X : CX E p s m args c meth cX0_refresh 2 none RX0) (hk83 : ∀ {M : Mem} {H : Heap} {locs : List Loc} {ls : Array Slot}, k83 M = some M1 → Rl E (sh_ b) (nn b) s.heap M H locs → lv_has ls 2 [(0, .ref (eB E + 21))] → W p l e (rm 5 0 0) s m args below meth c H locs 0 0 (MQ below (qq E none (sh_ b) (nn b) M1) args s 0 0 (fr E)) (F0 m 83 ls [])) : ∀ (n : Nat) {x1 : Int32} {M : Mem} {H : Heap} {locs : List Loc} {ls : Array Slot}, fX0_refresh_61 k83 n x1 M = some M1 → Rl E (sh_ b) (nn b) s.heap M H locs → lv_has ls 2 [(0, .ref (eB E + 21)), (1, .int x1)] → W p l e (rm 5 0 0) s m args below meth c H locs 0 0 (MQ below (qq E none (sh_ b) (nn b) M1) args s 0 0 (fr E)) (F0 m 61 ls []) := by
  obtain ⟨hx, hb, hr, hml, hown, hts, hK, hN, hO, hlk, hbs⟩ := id X
  intro n
  induction n with
  | zero =>
    intro x1 M H locs ls hf hR hl
    exact absurd (show none = some _ from hf) (fun h => by cases h)
  | succ n ih =>
    intro x1 M H locs ls hf hR hl
    rw [fX0_refresh_61] at hf
    refine lv_iload_n hx hb dX0_refresh_61 rfl (lv_at hl 1 rfl) ?_
    refine lv_aload_n hx hb dX0_refresh_62 rfl (lv_at hl 0 rfl) ?_
    refine x_get hx hb hown hts hK hR kX0 (z_21 b) (j := 0) (by decide) fl_X0_34 (v := .ref (eB E + 1)) rfl dX0_refresh_63 ?_
    refine x_get hx hb hown hts hK hR kX8 (z_1 b) (j := 0) (by decide) fl_X0_48 (v := .int (M.1 1 0)) rfl dX0_refresh_66 ?_
    refine lv_icmp_ge (tgt := 83) hx hb dX0_refresh_69 (by decide) (fun q69 => ?_) (fun q69 => ?_)
    · have hf := (br_if hf).1 q69
      exact hk83 hf hR (lv_sub hl [0] rfl)
    · have hf := (br_if hf).2 q69
      refine lv_aload_n hx hb dX0_refresh_72 rfl (lv_at hl 0 rfl) ?_
      refine lv_iload_n hx hb dX0_refresh_73 rfl (lv_at hl 1 rfl) ?_
      obtain ⟨q74, c74, hf⟩ := br_b hf
      refine x_callV (k := 21) (As := [.int x1]) (rest := []) (st1 := []) X hR (ctX0_addVotesOf c74) ml_X0_51 im_X0_addVotesOf se_X0_addVotesOf in_X0 co_X0_addVotesOf yo_X0_addVotesOf rfl kX0 (z_21 b) (rm_ok (by decide) (by decide)) rfl hl.1 rfl rfl (Nat.le_of_ble_eq_true rfl) dX0_refresh_74 ⟨Nat.zero_le _, Nat.zero_le _⟩ (fun H locs hR => ?_)
      obtain ⟨v77, e77⟩ : ∃ y : Int32, y = (x1 + (1 : Int32)) := ⟨_, rfl⟩
      have hf := nx_at e77 hf
      refine lv_iinc (v := v77) (lv' := [(1, .int v77), (0, .ref (eB E + 21))]) hx hb dX0_refresh_77 hl (k := 1) rfl (by rw [e77]; rfl) (by decide) rfl (fun ls hl => ?_)
      refine lv_goto (tgt := 61) hx hb dX0_refresh_80 (by decide) ?_
      exact ih hf hR (lv_sub hl [1, 0] rfl)
set_option maxHeartbeats 4000000 in
set_option maxRecDepth 100000 in
theorem wX0_refresh_151 {M1 : Mem} {k95 : Int32 → Mem → Option Mem} {k157 : Mem → Option Mem} (X : CX E p s m args c meth cX0_refresh 2 none RX0) (hk95 : ∀ {x1 : Int32} {M : Mem} {H : Heap} {locs : List Loc} {ls : Array Slot}, k95 x1 M = some M1 → Rl E (sh_ b) (nn b) s.heap M H locs → lv_has ls 2 [(0, .ref (eB E + 21)), (1, .int x1)] → W p l e (rm 5 0 0) s m args below meth c H locs 0 0 (MQ below (qq E none (sh_ b) (nn b) M1) args s 0 0 (fr E)) (F0 m 95 ls [])) (hk157 : ∀ {M : Mem} {H : Heap} {locs : List Loc} {ls : Array Slot}, k157 M = some M1 → Rl E (sh_ b) (nn b) s.heap M H locs → lv_has ls 2 [] → W p l e (rm 5 0 0) s m args below meth c H locs 0 0 (MQ below (qq E none (sh_ b) (nn b) M1) args s 0 0 (fr E)) (F0 m 157 ls [])) : ∀ {x1 : Int32} {M : Mem} {H : Heap} {locs : List Loc} {ls : Array Slot}, fX0_refresh_151 k95 k157 x1 M = some M1 → Rl E (sh_ b) (nn b) s.heap M H locs → lv_has ls 2 [(0, .ref (eB E + 21)), (1, .int x1)] → W p l e (rm 5 0 0) s m args below meth c H locs 0 0 (MQ below (qq E none (sh_ b) (nn b) M1) args s 0 0 (fr E)) (F0 m 151 ls []) := by
  obtain ⟨hx, hb, hr, hml, hown, hts, hK, hN, hO, hlk, hbs⟩ := id X
  intro x1 M H locs ls hf hR hl
  unfold fX0_refresh_151 at hf
  obtain ⟨v151, e151⟩ : ∃ y : Int32, y = (x1 + (1 : Int32)) := ⟨_, rfl⟩
  have hf := nx_at e151 hf
  refine lv_iinc (v := v151) (lv' := [(1, .int v151), (0, .ref (eB E + 21))]) hx hb dX0_refresh_151 hl (k := 1) rfl (by rw [e151]; rfl) (by decide) rfl (fun ls hl => ?_)
  refine lv_goto (tgt := 95) hx hb dX0_refresh_154 (by decide) ?_
  exact hk95 hf hR (lv_sub hl [1, 0] rfl)
set_option maxHeartbeats 4000000 in
set_option maxRecDepth 100000 in
theorem wX0_refresh_95 {M1 : Mem} {k157 : Mem → Option Mem} (X : CX E p s m args c meth cX0_refresh 2 none RX0) (hk157 : ∀ {M : Mem} {H : Heap} {locs : List Loc} {ls : Array Slot}, k157 M = some M1 → Rl E (sh_ b) (nn b) s.heap M H locs → lv_has ls 2 [] → W p l e (rm 5 0 0) s m args below meth c H locs 0 0 (MQ below (qq E none (sh_ b) (nn b) M1) args s 0 0 (fr E)) (F0 m 157 ls [])) : ∀ (n : Nat) {x1 : Int32} {M : Mem} {H : Heap} {locs : List Loc} {ls : Array Slot}, fX0_refresh_95 k157 n x1 M = some M1 → Rl E (sh_ b) (nn b) s.heap M H locs → lv_has ls 2 [(0, .ref (eB E + 21)), (1, .int x1)] → W p l e (rm 5 0 0) s m args below meth c H locs 0 0 (MQ below (qq E none (sh_ b) (nn b) M1) args s 0 0 (fr E)) (F0 m 95 ls []) := by
  obtain ⟨hx, hb, hr, hml, hown, hts, hK, hN, hO, hlk, hbs⟩ := id X
  intro n
  induction n with
  | zero =>
    intro x1 M H locs ls hf hR hl
    exact absurd (show none = some _ from hf) (fun h => by cases h)
  | succ n ih =>
    intro x1 M H locs ls hf hR hl
    rw [fX0_refresh_95] at hf
    refine lv_iload_n hx hb dX0_refresh_95 rfl (lv_at hl 1 rfl) ?_
    refine lv_aload_n hx hb dX0_refresh_96 rfl (lv_at hl 0 rfl) ?_
    refine x_get hx hb hown hts hK hR kX0 (z_21 b) (j := 0) (by decide) fl_X0_34 (v := .ref (eB E + 1)) rfl dX0_refresh_97 ?_
    refine x_get hx hb hown hts hK hR kX8 (z_1 b) (j := 8) (by decide) fl_X0_58 (v := .int (M.1 1 8)) rfl dX0_refresh_100 ?_
    refine lv_icmp_ge (tgt := 157) hx hb dX0_refresh_103 (by decide) (fun q103 => ?_) (fun q103 => ?_)
    · have hf := (br_if hf).1 q103
      exact hk157 hf hR (lv_sub hl [] rfl)
    · have hf := (br_if hf).2 q103
      refine lv_aload_n hx hb dX0_refresh_106 rfl (lv_at hl 0 rfl) ?_
      refine lv_iload_n hx hb dX0_refresh_107 rfl (lv_at hl 1 rfl) ?_
      obtain ⟨q108, c108, hf⟩ := br_b hf
      refine x_callV (k := 21) (As := [.int x1]) (rest := []) (st1 := []) X hR (ctX0_findBeaters c108) ml_X0_61 im_X0_findBeaters se_X0_findBeaters in_X0 co_X0_findBeaters yo_X0_findBeaters rfl kX0 (z_21 b) (rm_ok (by decide) (by decide)) rfl hl.1 rfl rfl (Nat.le_of_ble_eq_true rfl) dX0_refresh_108 ⟨Nat.zero_le _, Nat.zero_le _⟩ (fun H locs hR => ?_)
      refine lv_aload_n hx hb dX0_refresh_111 rfl (lv_at hl 0 rfl) ?_
      refine lv_dup hx hb dX0_refresh_112 rfl ?_
      refine x_get hx hb hown hts hK hR kX0 (z_21 b) (j := 5) (by decide) fl_X0_55 (v := .int (q108.1 21 5)) rfl dX0_refresh_113 ?_
      refine lv_aload_n hx hb dX0_refresh_116 rfl (lv_at hl 0 rfl) ?_
      refine x_get hx hb hown hts hK hR kX0 (z_21 b) (j := 3) (by decide) fl_X0_18 (v := .ref (eB E + 24)) rfl dX0_refresh_117 ?_
      refine lv_iload_n hx hb dX0_refresh_120 rfl (lv_at hl 1 rfl) ?_
      obtain ⟨g121, hf⟩ := br_g hf
      refine x_iald hx hb hK hR (z_24 b) g121 dX0_refresh_121 ?_
      obtain ⟨q122, c122, hf⟩ := br_b hf
      refine x_callS (As := [.int (q108.1 24 (ix x1))]) (rest := [.int (q108.1 21 5), .ref (eB E + 21)]) (st1 := [.int q122, .int (q108.1 21 5), .ref (eB E + 21)]) X hR (ctJ6_bitCount_0f7a4 c122) ml_X0_64 st_J6_bitCount_0f7a4 in_J6 co_J6_bitCount_0f7a4 yo_J6_bitCount_0f7a4 (rm_ok (by decide) (by decide)) rfl hl.1 rfl rfl (Nat.le_of_ble_eq_true rfl) dX0_refresh_122 ⟨Nat.zero_le _, Nat.zero_le _⟩ (fun H locs hR => ?_)
      refine lv_iadd hx hb dX0_refresh_125 ?_
      refine x_puti hx hb hown hts hK hR kX0 (z_21 b) (j := 5) (by decide) fl_X0_55 rfl rfl rfl rfl dX0_refresh_126 (fun H locs hR => ?_)
      obtain ⟨M126, e126⟩ : ∃ y : Mem, y = (sI q108 21 5 ((q108.1 21 5) + q122)) := ⟨_, rfl⟩
      have hf := nx_at e126 hf
      have hR : Rl E (sh_ b) (nn b) s.heap M126 H locs := by rw [e126]; exact hR
      refine lv_aload_n hx hb dX0_refresh_129 rfl (lv_at hl 0 rfl) ?_
      refine x_get hx hb hown hts hK hR kX0 (z_21 b) (j := 6) (by decide) fl_X0_24 (v := .int (M126.1 21 6)) rfl dX0_refresh_130 ?_
      refine lv_iconst (v := -1) hx hb dX0_refresh_133 (by decide) ?_
      refine lv_icmp_ne (tgt := 151) hx hb dX0_refresh_134 (by decide) (fun q134 => ?_) (fun q134 => ?_)
      · have hf := (br_if hf).2 q134
        exact wX0_refresh_151 X (fun hf hR hl => ih hf hR hl) (fun hf hR hl => hk157 hf hR hl) hf hR hl
      · have hf := (br_if hf).1 q134
        refine lv_aload_n hx hb dX0_refresh_137 rfl (lv_at hl 0 rfl) ?_
        refine x_get hx hb hown hts hK hR kX0 (z_21 b) (j := 3) (by decide) fl_X0_18 (v := .ref (eB E + 24)) rfl dX0_refresh_138 ?_
        refine lv_iload_n hx hb dX0_refresh_141 rfl (lv_at hl 1 rfl) ?_
        obtain ⟨g142, hf⟩ := br_g hf
        refine x_iald hx hb hK hR (z_24 b) g142 dX0_refresh_142 ?_
        refine lv_if_ne (tgt := 151) hx hb dX0_refresh_143 (by decide) (fun q143 => ?_) (fun q143 => ?_)
        · have hf := (br_if hf).2 q143
          exact wX0_refresh_151 X (fun hf hR hl => ih hf hR hl) (fun hf hR hl => hk157 hf hR hl) hf hR hl
        · have hf := (br_if hf).1 q143
          refine lv_aload_n hx hb dX0_refresh_146 rfl (lv_at hl 0 rfl) ?_
          refine lv_iload_n hx hb dX0_refresh_147 rfl (lv_at hl 1 rfl) ?_
          refine x_puti hx hb hown hts hK hR kX0 (z_21 b) (j := 6) (by decide) fl_X0_24 rfl rfl rfl rfl dX0_refresh_148 (fun H locs hR => ?_)
          obtain ⟨M148, e148⟩ : ∃ y : Mem, y = (sI M126 21 6 x1) := ⟨_, rfl⟩
          have hf := nx_at e148 hf
          have hR : Rl E (sh_ b) (nn b) s.heap M148 H locs := by rw [e148]; exact hR
          exact wX0_refresh_151 X (fun hf hR hl => ih hf hR hl) (fun hf hR hl => hk157 hf hR hl) hf hR hl
set_option maxHeartbeats 4000000 in
set_option maxRecDepth 100000 in
theorem wX0_refresh_157 {M1 : Mem} (X : CX E p s m args c meth cX0_refresh 2 none RX0) : ∀ {M : Mem} {H : Heap} {locs : List Loc} {ls : Array Slot}, fX0_refresh_157 M = some M1 → Rl E (sh_ b) (nn b) s.heap M H locs → lv_has ls 2 [] → W p l e (rm 5 0 0) s m args below meth c H locs 0 0 (MQ below (qq E none (sh_ b) (nn b) M1) args s 0 0 (fr E)) (F0 m 157 ls []) := by
  obtain ⟨hx, hb, hr, hml, hown, hts, hK, hN, hO, hlk, hbs⟩ := id X
  intro M H locs ls hf hR hl
  unfold fX0_refresh_157 at hf
  cases hf
  exact x_vret hx hb hr hlk hR dX0_refresh_157
set_option maxHeartbeats 4000000 in
set_option maxRecDepth 100000 in
theorem wX0_refresh_83 {M1 : Mem} (X : CX E p s m args c meth cX0_refresh 2 none RX0) : ∀ {M : Mem} {H : Heap} {locs : List Loc} {ls : Array Slot}, fX0_refresh_83 M = some M1 → Rl E (sh_ b) (nn b) s.heap M H locs → lv_has ls 2 [(0, .ref (eB E + 21))] → W p l e (rm 5 0 0) s m args below meth c H locs 0 0 (MQ below (qq E none (sh_ b) (nn b) M1) args s 0 0 (fr E)) (F0 m 83 ls []) := by
  obtain ⟨hx, hb, hr, hml, hown, hts, hK, hN, hO, hlk, hbs⟩ := id X
  intro M H locs ls hf hR hl
  unfold fX0_refresh_83 at hf
  refine lv_aload_n hx hb dX0_refresh_83 rfl (lv_at hl 0 rfl) ?_
  refine lv_iconst (v := 0) hx hb dX0_refresh_84 (by decide) ?_
  refine x_puti hx hb hown hts hK hR kX0 (z_21 b) (j := 5) (by decide) fl_X0_55 rfl rfl rfl rfl dX0_refresh_85 (fun H locs hR => ?_)
  obtain ⟨M85, e85⟩ : ∃ y : Mem, y = (sI M 21 5 (0 : Int32)) := ⟨_, rfl⟩
  have hf := nx_at e85 hf
  have hR : Rl E (sh_ b) (nn b) s.heap M85 H locs := by rw [e85]; exact hR
  refine lv_aload_n hx hb dX0_refresh_88 rfl (lv_at hl 0 rfl) ?_
  refine lv_iconst (v := -1) hx hb dX0_refresh_89 (by decide) ?_
  refine x_puti hx hb hown hts hK hR kX0 (z_21 b) (j := 6) (by decide) fl_X0_24 rfl rfl rfl rfl dX0_refresh_90 (fun H locs hR => ?_)
  obtain ⟨M90, e90⟩ : ∃ y : Mem, y = (sI M85 21 6 (-1 : Int32)) := ⟨_, rfl⟩
  have hf := nx_at e90 hf
  have hR : Rl E (sh_ b) (nn b) s.heap M90 H locs := by rw [e90]; exact hR
  refine lv_iconst (v := 0) hx hb dX0_refresh_93 (by decide) ?_
  refine lv_istore_n (lv' := [(1, .int (0 : Int32)), (0, .ref (eB E + 21))]) hx hb dX0_refresh_94 rfl hl (by decide) rfl (fun ls hl => ?_)
  exact wX0_refresh_95 X (fun hf hR hl => wX0_refresh_157 X hf hR hl) FU hf hR (lv_sub hl [1, 0] rfl)
set_option maxHeartbeats 4000000 in
set_option maxRecDepth 100000 in
theorem wX0_refresh_29 {M1 : Mem} (X : CX E p s m args c meth cX0_refresh 2 none RX0) : ∀ {M : Mem} {H : Heap} {locs : List Loc} {ls : Array Slot}, fX0_refresh_29 M = some M1 → Rl E (sh_ b) (nn b) s.heap M H locs → lv_has ls 2 [(0, .ref (eB E + 21))] → W p l e (rm 5 0 0) s m args below meth c H locs 0 0 (MQ below (qq E none (sh_ b) (nn b) M1) args s 0 0 (fr E)) (F0 m 29 ls []) := by
  obtain ⟨hx, hb, hr, hml, hown, hts, hK, hN, hO, hlk, hbs⟩ := id X
  intro M H locs ls hf hR hl
  unfold fX0_refresh_29 at hf
  refine lv_aload_n hx hb dX0_refresh_29 rfl (lv_at hl 0 rfl) ?_
  refine lv_aload_n hx hb dX0_refresh_30 rfl (lv_at hl 0 rfl) ?_
  refine x_get hx hb hown hts hK hR kX0 (z_21 b) (j := 0) (by decide) fl_X0_34 (v := .ref (eB E + 1)) rfl dX0_refresh_31 ?_
  refine x_get hx hb hown hts hK hR kX8 (z_1 b) (j := 14) (by decide) fl_X0_38 (v := .int (M.1 1 14)) rfl dX0_refresh_34 ?_
  refine x_puti hx hb hown hts hK hR kX0 (z_21 b) (j := 7) (by decide) fl_X0_28 rfl rfl rfl rfl dX0_refresh_37 (fun H locs hR => ?_)
  obtain ⟨M37, e37⟩ : ∃ y : Mem, y = (sI M 21 7 (M.1 1 14)) := ⟨_, rfl⟩
  have hf := nx_at e37 hf
  have hR : Rl E (sh_ b) (nn b) s.heap M37 H locs := by rw [e37]; exact hR
  refine lv_aload_n hx hb dX0_refresh_40 rfl (lv_at hl 0 rfl) ?_
  refine lv_aload_n hx hb dX0_refresh_41 rfl (lv_at hl 0 rfl) ?_
  refine x_get hx hb hown hts hK hR kX0 (z_21 b) (j := 0) (by decide) fl_X0_34 (v := .ref (eB E + 1)) rfl dX0_refresh_42 ?_
  refine x_get hx hb hown hts hK hR kX8 (z_1 b) (j := 15) (by decide) fl_X0_41 (v := .int (M37.1 1 15)) rfl dX0_refresh_45 ?_
  refine x_puti hx hb hown hts hK hR kX0 (z_21 b) (j := 8) (by decide) fl_X0_31 rfl rfl rfl rfl dX0_refresh_48 (fun H locs hR => ?_)
  obtain ⟨M48, e48⟩ : ∃ y : Mem, y = (sI M37 21 8 (M37.1 1 15)) := ⟨_, rfl⟩
  have hf := nx_at e48 hf
  have hR : Rl E (sh_ b) (nn b) s.heap M48 H locs := by rw [e48]; exact hR
  refine lv_aload_n hx hb dX0_refresh_51 rfl (lv_at hl 0 rfl) ?_
  refine x_get hx hb hown hts hK hR kX0 (z_21 b) (j := 1) (by decide) fl_X0_9 (v := .ref (eB E + 22)) rfl dX0_refresh_52 ?_
  refine lv_iconst (v := 0) hx hb dX0_refresh_55 (by decide) ?_
  obtain ⟨q56, c56, hf⟩ := br_b hf
  refine x_callS (As := [.ref (eB E + 22), .int (0 : Int32)]) (rest := []) (st1 := []) X hR (ctJ7_fill_53178 (z_22 b) c56) ml_X0_42 st_J7_fill_53178 in_J7 co_J7_fill_53178 yo_J7_fill_53178 (rm_ok (by decide) (by decide)) rfl hl.1 rfl rfl (Nat.le_of_ble_eq_true rfl) dX0_refresh_56 ⟨Nat.zero_le _, Nat.zero_le _⟩ (fun H locs hR => ?_)
  refine lv_iconst (v := 0) hx hb dX0_refresh_59 (by decide) ?_
  refine lv_istore_n (lv' := [(1, .int (0 : Int32)), (0, .ref (eB E + 21))]) hx hb dX0_refresh_60 rfl hl (by decide) rfl (fun ls hl => ?_)
  exact wX0_refresh_61 X (fun hf hR hl => wX0_refresh_83 X hf hR hl) FU hf hR (lv_sub hl [1, 0] rfl)
set_option maxHeartbeats 4000000 in
set_option maxRecDepth 100000 in
theorem wX0_refresh_0 {M1 : Mem} (X : CX E p s m args c meth cX0_refresh 2 none RX0) : ∀ {M : Mem} {H : Heap} {locs : List Loc} {ls : Array Slot}, fX0_refresh M = some M1 → Rl E (sh_ b) (nn b) s.heap M H locs → lv_has ls 2 [(0, .ref (eB E + 21))] → W p l e (rm 5 0 0) s m args below meth c H locs 0 0 (MQ below (qq E none (sh_ b) (nn b) M1) args s 0 0 (fr E)) (F0 m 0 ls []) := by
  obtain ⟨hx, hb, hr, hml, hown, hts, hK, hN, hO, hlk, hbs⟩ := id X
  intro M H locs ls hf hR hl
  unfold fX0_refresh at hf
  refine lv_aload_n hx hb dX0_refresh_0 rfl (lv_at hl 0 rfl) ?_
  refine x_get hx hb hown hts hK hR kX0 (z_21 b) (j := 7) (by decide) fl_X0_28 (v := .int (M.1 21 7)) rfl dX0_refresh_1 ?_
  refine lv_aload_n hx hb dX0_refresh_4 rfl (lv_at hl 0 rfl) ?_
  refine x_get hx hb hown hts hK hR kX0 (z_21 b) (j := 0) (by decide) fl_X0_34 (v := .ref (eB E + 1)) rfl dX0_refresh_5 ?_
  refine x_get hx hb hown hts hK hR kX8 (z_1 b) (j := 14) (by decide) fl_X0_38 (v := .int (M.1 1 14)) rfl dX0_refresh_8 ?_
  refine lv_icmp_ne (tgt := 29) hx hb dX0_refresh_11 (by decide) (fun q11 => ?_) (fun q11 => ?_)
  · have hf := (br_if hf).2 q11
    exact wX0_refresh_29 X hf hR hl
  · have hf := (br_if hf).1 q11
    refine lv_aload_n hx hb dX0_refresh_14 rfl (lv_at hl 0 rfl) ?_
    refine x_get hx hb hown hts hK hR kX0 (z_21 b) (j := 8) (by decide) fl_X0_31 (v := .int (M.1 21 8)) rfl dX0_refresh_15 ?_
    refine lv_aload_n hx hb dX0_refresh_18 rfl (lv_at hl 0 rfl) ?_
    refine x_get hx hb hown hts hK hR kX0 (z_21 b) (j := 0) (by decide) fl_X0_34 (v := .ref (eB E + 1)) rfl dX0_refresh_19 ?_
    refine x_get hx hb hown hts hK hR kX8 (z_1 b) (j := 15) (by decide) fl_X0_41 (v := .int (M.1 1 15)) rfl dX0_refresh_22 ?_
    refine lv_icmp_ne (tgt := 29) hx hb dX0_refresh_25 (by decide) (fun q25 => ?_) (fun q25 => ?_)
    · have hf := (br_if hf).2 q25
      exact wX0_refresh_29 X hf hR hl
    · have hf := (br_if hf).1 q25
      cases hf
      exact x_vret hx hb hr hlk hR dX0_refresh_28
theorem ctX0_refresh {l : Launch} {E : Ge} {b : Bool} {M : Mem} {M1 : Mem} (h : fX0_refresh M = some M1) : CT l E yX0_refresh cX0_refresh 2 none 5 0 0 [.ref (eB E + 21)] none (sh_ b) (nn b) M (sh_ b) (nn b) M1 := by
  refine met_of (by decide) (Nat.le_of_ble_eq_true rfl) ?_
  intro p e s m args below meth c X _ hR ls hl
  exact wX0_refresh_0 X h hR hl
def fX0_uncovered_29 (M : Mem) (k4 : Int32 → Int32 → Option Int32) (k35 : Int32 → Option Int32) (x1 : Int32) (x2 : Int32) : Option Int32 := nx (x2 + (1 : Int32)) (fun v29 => k4 x1 v29)
def fX0_uncovered_4 (M : Mem) (k35 : Int32 → Option Int32) : Nat → Int32 → Int32 → Option Int32
  | 0, _, _ => none
  | n + 1, x1, x2 => (if (M.1 1 8) ≤ x2 then k35 x1 else (fX0_isCovered M x2).bind (fun q17 => (if q17 = 0 then nx (x1 ||| ((1 : Int32) <<< (x2 &&& 31))) (fun v28 => fX0_uncovered_29 M (fX0_uncovered_4 M k35 n) k35 v28 x2) else fX0_uncovered_29 M (fX0_uncovered_4 M k35 n) k35 x1 x2)))
def fX0_uncovered_35 (M : Mem) (x1 : Int32) : Option Int32 := some x1
def fX0_uncovered (M : Mem) : Option Int32 := fX0_uncovered_4 M (fX0_uncovered_35 M) FU (0 : Int32) (0 : Int32)
set_option maxHeartbeats 4000000 in
set_option maxRecDepth 100000 in
theorem wX0_uncovered_29 {r : Int32} {M : Mem} {k4 : Int32 → Int32 → Option Int32} {k35 : Int32 → Option Int32} (X : CX E p s m args c meth cX0_uncovered 3 (some .int) RX0) (hk4 : ∀ {x1 : Int32} {x2 : Int32} {H : Heap} {locs : List Loc} {ls : Array Slot}, k4 x1 x2 = some r → Rl E (sh_ b) (nn b) s.heap M H locs → lv_has ls 3 [(0, .ref (eB E + 21)), (1, .int x1), (2, .int x2)] → W p l e (rm 3 0 0) s m args below meth c H locs 0 0 (MQ below (qq E (some (.int r)) (sh_ b) (nn b) M) args s 0 0 (fr E)) (F0 m 4 ls [])) (hk35 : ∀ {x1 : Int32} {H : Heap} {locs : List Loc} {ls : Array Slot}, k35 x1 = some r → Rl E (sh_ b) (nn b) s.heap M H locs → lv_has ls 3 [(1, .int x1)] → W p l e (rm 3 0 0) s m args below meth c H locs 0 0 (MQ below (qq E (some (.int r)) (sh_ b) (nn b) M) args s 0 0 (fr E)) (F0 m 35 ls [])) : ∀ {x1 : Int32} {x2 : Int32} {H : Heap} {locs : List Loc} {ls : Array Slot}, fX0_uncovered_29 M k4 k35 x1 x2 = some r → Rl E (sh_ b) (nn b) s.heap M H locs → lv_has ls 3 [(0, .ref (eB E + 21)), (1, .int x1), (2, .int x2)] → W p l e (rm 3 0 0) s m args below meth c H locs 0 0 (MQ below (qq E (some (.int r)) (sh_ b) (nn b) M) args s 0 0 (fr E)) (F0 m 29 ls []) := by
  obtain ⟨hx, hb, hr, hml, hown, hts, hK, hN, hO, hlk, hbs⟩ := id X
  intro x1 x2 H locs ls hf hR hl
  unfold fX0_uncovered_29 at hf
  obtain ⟨v29, e29⟩ : ∃ y : Int32, y = (x2 + (1 : Int32)) := ⟨_, rfl⟩
  have hf := nx_at e29 hf
  refine lv_iinc (v := v29) (lv' := [(2, .int v29), (0, .ref (eB E + 21)), (1, .int x1)]) hx hb dX0_uncovered_29 hl (k := 2) rfl (by rw [e29]; rfl) (by decide) rfl (fun ls hl => ?_)
  refine lv_goto (tgt := 4) hx hb dX0_uncovered_32 (by decide) ?_
  exact hk4 hf hR (lv_sub hl [1, 2, 0] rfl)
set_option maxHeartbeats 4000000 in
set_option maxRecDepth 100000 in
theorem wX0_uncovered_4 {r : Int32} {M : Mem} {k35 : Int32 → Option Int32} (X : CX E p s m args c meth cX0_uncovered 3 (some .int) RX0) (hk35 : ∀ {x1 : Int32} {H : Heap} {locs : List Loc} {ls : Array Slot}, k35 x1 = some r → Rl E (sh_ b) (nn b) s.heap M H locs → lv_has ls 3 [(1, .int x1)] → W p l e (rm 3 0 0) s m args below meth c H locs 0 0 (MQ below (qq E (some (.int r)) (sh_ b) (nn b) M) args s 0 0 (fr E)) (F0 m 35 ls [])) : ∀ (n : Nat) {x1 : Int32} {x2 : Int32} {H : Heap} {locs : List Loc} {ls : Array Slot}, fX0_uncovered_4 M k35 n x1 x2 = some r → Rl E (sh_ b) (nn b) s.heap M H locs → lv_has ls 3 [(0, .ref (eB E + 21)), (1, .int x1), (2, .int x2)] → W p l e (rm 3 0 0) s m args below meth c H locs 0 0 (MQ below (qq E (some (.int r)) (sh_ b) (nn b) M) args s 0 0 (fr E)) (F0 m 4 ls []) := by
  obtain ⟨hx, hb, hr, hml, hown, hts, hK, hN, hO, hlk, hbs⟩ := id X
  intro n
  induction n with
  | zero =>
    intro x1 x2 H locs ls hf hR hl
    exact absurd (show none = some _ from hf) (fun h => by cases h)
  | succ n ih =>
    intro x1 x2 H locs ls hf hR hl
    rw [fX0_uncovered_4] at hf
    refine lv_iload_n hx hb dX0_uncovered_4 rfl (lv_at hl 2 rfl) ?_
    refine lv_aload_n hx hb dX0_uncovered_5 rfl (lv_at hl 0 rfl) ?_
    refine x_get hx hb hown hts hK hR kX0 (z_21 b) (j := 0) (by decide) fl_X0_34 (v := .ref (eB E + 1)) rfl dX0_uncovered_6 ?_
    refine x_get hx hb hown hts hK hR kX8 (z_1 b) (j := 8) (by decide) fl_X0_58 (v := .int (M.1 1 8)) rfl dX0_uncovered_9 ?_
    refine lv_icmp_ge (tgt := 35) hx hb dX0_uncovered_12 (by decide) (fun q12 => ?_) (fun q12 => ?_)
    · have hf := (br_if hf).1 q12
      exact hk35 hf hR (lv_sub hl [1] rfl)
    · have hf := (br_if hf).2 q12
      refine lv_aload_n hx hb dX0_uncovered_15 rfl (lv_at hl 0 rfl) ?_
      refine lv_iload_n hx hb dX0_uncovered_16 rfl (lv_at hl 2 rfl) ?_
      obtain ⟨q17, c17, hf⟩ := br_b hf
      refine x_callV (k := 21) (As := [.int x2]) (rest := []) (st1 := [.int q17]) X hR (ctX0_isCovered c17) ml_X0_108 im_X0_isCovered se_X0_isCovered in_X0 co_X0_isCovered yo_X0_isCovered rfl kX0 (z_21 b) (rm_ok (by decide) (by decide)) rfl hl.1 rfl rfl (Nat.le_of_ble_eq_true rfl) dX0_uncovered_17 ⟨Nat.zero_le _, Nat.zero_le _⟩ (fun H locs hR => ?_)
      refine lv_if_ne (tgt := 29) hx hb dX0_uncovered_20 (by decide) (fun q20 => ?_) (fun q20 => ?_)
      · have hf := (br_if hf).2 q20
        exact wX0_uncovered_29 X (fun hf hR hl => ih hf hR hl) (fun hf hR hl => hk35 hf hR hl) hf hR hl
      · have hf := (br_if hf).1 q20
        refine lv_iload_n hx hb dX0_uncovered_23 rfl (lv_at hl 1 rfl) ?_
        refine lv_iconst (v := 1) hx hb dX0_uncovered_24 (by decide) ?_
        refine lv_iload_n hx hb dX0_uncovered_25 rfl (lv_at hl 2 rfl) ?_
        refine lv_ishl hx hb dX0_uncovered_26 ?_
        refine lv_ior hx hb dX0_uncovered_27 ?_
        refine lv_topi (fun v28 e28 => ?_)
        have hf := nx_at e28 hf
        refine lv_istore_n (lv' := [(1, .int v28), (0, .ref (eB E + 21)), (2, .int x2)]) hx hb dX0_uncovered_28 rfl hl (by decide) rfl (fun ls hl => ?_)
        exact wX0_uncovered_29 X (fun hf hR hl => ih hf hR hl) (fun hf hR hl => hk35 hf hR hl) hf hR (lv_sub hl [1, 0, 2] rfl)
set_option maxHeartbeats 4000000 in
set_option maxRecDepth 100000 in
theorem wX0_uncovered_35 {r : Int32} {M : Mem} (X : CX E p s m args c meth cX0_uncovered 3 (some .int) RX0) : ∀ {x1 : Int32} {H : Heap} {locs : List Loc} {ls : Array Slot}, fX0_uncovered_35 M x1 = some r → Rl E (sh_ b) (nn b) s.heap M H locs → lv_has ls 3 [(1, .int x1)] → W p l e (rm 3 0 0) s m args below meth c H locs 0 0 (MQ below (qq E (some (.int r)) (sh_ b) (nn b) M) args s 0 0 (fr E)) (F0 m 35 ls []) := by
  obtain ⟨hx, hb, hr, hml, hown, hts, hK, hN, hO, hlk, hbs⟩ := id X
  intro x1 H locs ls hf hR hl
  unfold fX0_uncovered_35 at hf
  refine lv_iload_n hx hb dX0_uncovered_35 rfl (lv_at hl 0 rfl) ?_
  cases hf
  exact x_iret hx hb hr hlk hR dX0_uncovered_36
set_option maxHeartbeats 4000000 in
set_option maxRecDepth 100000 in
theorem wX0_uncovered_0 {r : Int32} {M : Mem} (X : CX E p s m args c meth cX0_uncovered 3 (some .int) RX0) : ∀ {H : Heap} {locs : List Loc} {ls : Array Slot}, fX0_uncovered M = some r → Rl E (sh_ b) (nn b) s.heap M H locs → lv_has ls 3 [(0, .ref (eB E + 21))] → W p l e (rm 3 0 0) s m args below meth c H locs 0 0 (MQ below (qq E (some (.int r)) (sh_ b) (nn b) M) args s 0 0 (fr E)) (F0 m 0 ls []) := by
  obtain ⟨hx, hb, hr, hml, hown, hts, hK, hN, hO, hlk, hbs⟩ := id X
  intro H locs ls hf hR hl
  unfold fX0_uncovered at hf
  refine lv_iconst (v := 0) hx hb dX0_uncovered_0 (by decide) ?_
  refine lv_istore_n (lv' := [(1, .int (0 : Int32)), (0, .ref (eB E + 21))]) hx hb dX0_uncovered_1 rfl hl (by decide) rfl (fun ls hl => ?_)
  refine lv_iconst (v := 0) hx hb dX0_uncovered_2 (by decide) ?_
  refine lv_istore_n (lv' := [(2, .int (0 : Int32)), (1, .int (0 : Int32)), (0, .ref (eB E + 21))]) hx hb dX0_uncovered_3 rfl hl (by decide) rfl (fun ls hl => ?_)
  exact wX0_uncovered_4 X (fun hf hR hl => wX0_uncovered_35 X hf hR hl) FU hf hR (lv_sub hl [2, 1, 0] rfl)
theorem ctX0_uncovered {l : Launch} {E : Ge} {b : Bool} {M : Mem} {r : Int32} (h : fX0_uncovered M = some r) : CT l E yX0_uncovered cX0_uncovered 3 (some .int) 3 0 0 [.ref (eB E + 21)] (some (.int r)) (sh_ b) (nn b) M (sh_ b) (nn b) M := by
  refine met_of (by decide) (Nat.le_of_ble_eq_true rfl) ?_
  intro p e s m args below meth c X _ hR ls hl
  exact wX0_uncovered_0 X h hR hl
def fX0_walk_5 (M : Mem) (k23 : Int32 → Option Int32) : Nat → Int32 → Int32 → Int32 → Option Int32
  | 0, _, _, _ => none
  | n + 1, x2, x3, x4 => (if x2 ≤ x4 then k23 x3 else (fX0_nextFrom M x3).bind (fun q13 => nx (x4 + (1 : Int32)) (fun v17 => fX0_walk_5 M k23 n x2 q13 v17)))
def fX0_walk_23 (M : Mem) (x3 : Int32) : Option Int32 := some x3
def fX0_walk (M : Mem) (x1 : Int32) (x2 : Int32) : Option Int32 := fX0_walk_5 M (fX0_walk_23 M) FU x2 x1 (0 : Int32)
set_option maxHeartbeats 4000000 in
set_option maxRecDepth 100000 in
theorem wX0_walk_5 {r : Int32} {M : Mem} {k23 : Int32 → Option Int32} (X : CX E p s m args c meth cX0_walk 5 (some .int) RX0) (hk23 : ∀ {x3 : Int32} {H : Heap} {locs : List Loc} {ls : Array Slot}, k23 x3 = some r → Rl E (sh_ b) (nn b) s.heap M H locs → lv_has ls 5 [(3, .int x3)] → W p l e (rm 3 0 0) s m args below meth c H locs 0 0 (MQ below (qq E (some (.int r)) (sh_ b) (nn b) M) args s 0 0 (fr E)) (F0 m 23 ls [])) : ∀ (n : Nat) {x2 : Int32} {x3 : Int32} {x4 : Int32} {H : Heap} {locs : List Loc} {ls : Array Slot}, fX0_walk_5 M k23 n x2 x3 x4 = some r → Rl E (sh_ b) (nn b) s.heap M H locs → lv_has ls 5 [(0, .ref (eB E + 21)), (2, .int x2), (3, .int x3), (4, .int x4)] → W p l e (rm 3 0 0) s m args below meth c H locs 0 0 (MQ below (qq E (some (.int r)) (sh_ b) (nn b) M) args s 0 0 (fr E)) (F0 m 5 ls []) := by
  obtain ⟨hx, hb, hr, hml, hown, hts, hK, hN, hO, hlk, hbs⟩ := id X
  intro n
  induction n with
  | zero =>
    intro x2 x3 x4 H locs ls hf hR hl
    exact absurd (show none = some _ from hf) (fun h => by cases h)
  | succ n ih =>
    intro x2 x3 x4 H locs ls hf hR hl
    rw [fX0_walk_5] at hf
    refine lv_iload hx hb dX0_walk_5 (lv_at hl 3 rfl) ?_
    refine lv_iload_n hx hb dX0_walk_7 rfl (lv_at hl 1 rfl) ?_
    refine lv_icmp_ge (tgt := 23) hx hb dX0_walk_8 (by decide) (fun q8 => ?_) (fun q8 => ?_)
    · have hf := (br_if hf).1 q8
      exact hk23 hf hR (lv_sub hl [2] rfl)
    · have hf := (br_if hf).2 q8
      refine lv_aload_n hx hb dX0_walk_11 rfl (lv_at hl 0 rfl) ?_
      refine lv_iload_n hx hb dX0_walk_12 rfl (lv_at hl 2 rfl) ?_
      obtain ⟨q13, c13, hf⟩ := br_b hf
      refine x_callV (k := 21) (As := [.int x3]) (rest := []) (st1 := [.int q13]) X hR (ctX0_nextFrom c13) ml_X0_99 im_X0_nextFrom se_X0_nextFrom in_X0 co_X0_nextFrom yo_X0_nextFrom rfl kX0 (z_21 b) (rm_ok (by decide) (by decide)) rfl hl.1 rfl rfl (Nat.le_of_ble_eq_true rfl) dX0_walk_13 ⟨Nat.zero_le _, Nat.zero_le _⟩ (fun H locs hR => ?_)
      refine lv_istore_n (lv' := [(3, .int q13), (0, .ref (eB E + 21)), (2, .int x2), (4, .int x4)]) hx hb dX0_walk_16 rfl hl (by decide) rfl (fun ls hl => ?_)
      obtain ⟨v17, e17⟩ : ∃ y : Int32, y = (x4 + (1 : Int32)) := ⟨_, rfl⟩
      have hf := nx_at e17 hf
      refine lv_iinc (v := v17) (lv' := [(4, .int v17), (3, .int q13), (0, .ref (eB E + 21)), (2, .int x2)]) hx hb dX0_walk_17 hl (k := 3) rfl (by rw [e17]; rfl) (by decide) rfl (fun ls hl => ?_)
      refine lv_goto (tgt := 5) hx hb dX0_walk_20 (by decide) ?_
      exact ih hf hR (lv_sub hl [2, 3, 1, 0] rfl)
set_option maxHeartbeats 4000000 in
set_option maxRecDepth 100000 in
theorem wX0_walk_23 {r : Int32} {M : Mem} (X : CX E p s m args c meth cX0_walk 5 (some .int) RX0) : ∀ {x3 : Int32} {H : Heap} {locs : List Loc} {ls : Array Slot}, fX0_walk_23 M x3 = some r → Rl E (sh_ b) (nn b) s.heap M H locs → lv_has ls 5 [(3, .int x3)] → W p l e (rm 3 0 0) s m args below meth c H locs 0 0 (MQ below (qq E (some (.int r)) (sh_ b) (nn b) M) args s 0 0 (fr E)) (F0 m 23 ls []) := by
  obtain ⟨hx, hb, hr, hml, hown, hts, hK, hN, hO, hlk, hbs⟩ := id X
  intro x3 H locs ls hf hR hl
  unfold fX0_walk_23 at hf
  refine lv_iload_n hx hb dX0_walk_23 rfl (lv_at hl 0 rfl) ?_
  cases hf
  exact x_iret hx hb hr hlk hR dX0_walk_24
set_option maxHeartbeats 4000000 in
set_option maxRecDepth 100000 in
theorem wX0_walk_0 {r : Int32} {M : Mem} (X : CX E p s m args c meth cX0_walk 5 (some .int) RX0) : ∀ {x1 : Int32} {x2 : Int32} {H : Heap} {locs : List Loc} {ls : Array Slot}, fX0_walk M x1 x2 = some r → Rl E (sh_ b) (nn b) s.heap M H locs → lv_has ls 5 [(0, .ref (eB E + 21)), (1, .int x1), (2, .int x2)] → W p l e (rm 3 0 0) s m args below meth c H locs 0 0 (MQ below (qq E (some (.int r)) (sh_ b) (nn b) M) args s 0 0 (fr E)) (F0 m 0 ls []) := by
  obtain ⟨hx, hb, hr, hml, hown, hts, hK, hN, hO, hlk, hbs⟩ := id X
  intro x1 x2 H locs ls hf hR hl
  unfold fX0_walk at hf
  refine lv_iload_n hx hb dX0_walk_0 rfl (lv_at hl 1 rfl) ?_
  refine lv_istore_n (lv' := [(3, .int x1), (0, .ref (eB E + 21)), (1, .int x1), (2, .int x2)]) hx hb dX0_walk_1 rfl hl (by decide) rfl (fun ls hl => ?_)
  refine lv_iconst (v := 0) hx hb dX0_walk_2 (by decide) ?_
  refine lv_istore (lv' := [(4, .int (0 : Int32)), (3, .int x1), (0, .ref (eB E + 21)), (1, .int x1), (2, .int x2)]) hx hb dX0_walk_3 hl (by decide) rfl (fun ls hl => ?_)
  exact wX0_walk_5 X (fun hf hR hl => wX0_walk_23 X hf hR hl) FU hf hR (lv_sub hl [2, 4, 1, 0] rfl)
theorem ctX0_walk {l : Launch} {E : Ge} {b : Bool} {M : Mem} {x1 : Int32} {x2 : Int32} {r : Int32} (h : fX0_walk M x1 x2 = some r) : CT l E yX0_walk cX0_walk 5 (some .int) 3 0 0 [.ref (eB E + 21), .int x1, .int x2] (some (.int r)) (sh_ b) (nn b) M (sh_ b) (nn b) M := by
  refine met_of (by decide) (Nat.le_of_ble_eq_true rfl) ?_
  intro p e s m args below meth c X _ hR ls hl
  exact wX0_walk_0 X h hR hl
end WK
