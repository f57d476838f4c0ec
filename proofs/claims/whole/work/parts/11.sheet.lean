section WK
variable {p : Program} {l : Launch} {e : Env} {s : State} {m : MethodId} {args : Array Value} {below : List Frame} {meth : Method} {c : Code} {E : Ge} {b : Bool}
def fX8_clear_t (M : Mem) : Option Mem := nx (sI M 1 0 (0 : Int32)) (fun M2 => nx (sI M2 1 7 (0 : Int32)) (fun M7 => nx (sI M7 1 8 (0 : Int32)) (fun M12 => nx (sI M12 1 11 (0 : Int32)) (fun M17 => nx (sI M17 1 12 (1 : Int32)) (fun M22 => nx (sI M22 1 13 (1 : Int32)) (fun M27 => some M27))))))
set_option maxHeartbeats 4000000 in
set_option maxRecDepth 100000 in
theorem wX8_clear_t_0 {M1 : Mem} (X : CX E p s m args c meth cX8_clear 1 none RX8) : ∀ {M : Mem} {H : Heap} {locs : List Loc} {ls : Array Slot}, fX8_clear_t M = some M1 → Rl E (sh_ b) (nn b) s.heap M H locs → lv_has ls 1 [(0, .ref (eB E + 1))] → W p l e (rm 1 0 0) s m args below meth c H locs 0 0 (MQ below (qq E none (sh_ b) (nn b) M1) args s 0 0 (fr E)) (F0 m 0 ls []) := by
  obtain ⟨hx, hb, hr, hml, hown, hts, hK, hN, hO, hlk, hbs⟩ := id X
  intro M H locs ls hf hR hl
  unfold fX8_clear_t at hf
  refine lv_aload_n hx hb dX8_clear_0 rfl (lv_at hl 0 rfl) ?_
  refine lv_iconst (v := 0) hx hb dX8_clear_1 (by decide) ?_
  refine x_puti hx hb hown hts hK hR kX8 (z_1 b) (j := 0) (by decide) fl_X8_36 rfl rfl rfl rfl dX8_clear_2 (fun H locs hR => ?_)
  obtain ⟨M2, e2⟩ : ∃ y : Mem, y = (sI M 1 0 (0 : Int32)) := ⟨_, rfl⟩
  have hf := nx_at e2 hf
  have hR : Rl E (sh_ b) (nn b) s.heap M2 H locs := by rw [e2]; exact hR
  refine lv_aload_n hx hb dX8_clear_5 rfl (lv_at hl 0 rfl) ?_
  refine lv_iconst (v := 0) hx hb dX8_clear_6 (by decide) ?_
  refine x_puti hx hb hown hts hK hR kX8 (z_1 b) (j := 7) (by decide) fl_X8_40 rfl rfl rfl rfl dX8_clear_7 (fun H locs hR => ?_)
  obtain ⟨M7, e7⟩ : ∃ y : Mem, y = (sI M2 1 7 (0 : Int32)) := ⟨_, rfl⟩
  have hf := nx_at e7 hf
  have hR : Rl E (sh_ b) (nn b) s.heap M7 H locs := by rw [e7]; exact hR
  refine lv_aload_n hx hb dX8_clear_10 rfl (lv_at hl 0 rfl) ?_
  refine lv_iconst (v := 0) hx hb dX8_clear_11 (by decide) ?_
  refine x_puti hx hb hown hts hK hR kX8 (z_1 b) (j := 8) (by decide) fl_X8_43 rfl rfl rfl rfl dX8_clear_12 (fun H locs hR => ?_)
  obtain ⟨M12, e12⟩ : ∃ y : Mem, y = (sI M7 1 8 (0 : Int32)) := ⟨_, rfl⟩
  have hf := nx_at e12 hf
  have hR : Rl E (sh_ b) (nn b) s.heap M12 H locs := by rw [e12]; exact hR
  refine lv_aload_n hx hb dX8_clear_15 rfl (lv_at hl 0 rfl) ?_
  refine lv_iconst (v := 0) hx hb dX8_clear_16 (by decide) ?_
  refine x_puti hx hb hown hts hK hR kX8 (z_1 b) (j := 11) (by decide) fl_X8_46 rfl rfl rfl rfl dX8_clear_17 (fun H locs hR => ?_)
  obtain ⟨M17, e17⟩ : ∃ y : Mem, y = (sI M12 1 11 (0 : Int32)) := ⟨_, rfl⟩
  have hf := nx_at e17 hf
  have hR : Rl E (sh_ b) (nn b) s.heap M17 H locs := by rw [e17]; exact hR
  refine lv_aload_n hx hb dX8_clear_20 rfl (lv_at hl 0 rfl) ?_
  refine lv_iconst (v := 1) hx hb dX8_clear_21 (by decide) ?_
  refine x_puti hx hb hown hts hK hR kX8 (z_1 b) (j := 12) (by decide) fl_X8_49 rfl rfl rfl rfl dX8_clear_22 (fun H locs hR => ?_)
  obtain ⟨M22, e22⟩ : ∃ y : Mem, y = (sI M17 1 12 (1 : Int32)) := ⟨_, rfl⟩
  have hf := nx_at e22 hf
  have hR : Rl E (sh_ b) (nn b) s.heap M22 H locs := by rw [e22]; exact hR
  refine lv_aload_n hx hb dX8_clear_25 rfl (lv_at hl 0 rfl) ?_
  refine lv_iconst (v := 1) hx hb dX8_clear_26 (by decide) ?_
  refine x_puti hx hb hown hts hK hR kX8 (z_1 b) (j := 13) (by decide) fl_X8_52 rfl rfl rfl rfl dX8_clear_27 (fun H locs hR => ?_)
  obtain ⟨M27, e27⟩ : ∃ y : Mem, y = (sI M22 1 13 (1 : Int32)) := ⟨_, rfl⟩
  have hf := nx_at e27 hf
  have hR : Rl E (sh_ b) (nn b) s.heap M27 H locs := by rw [e27]; exact hR
  cases hf
  exact x_vret hx hb hr hlk hR dX8_clear_30
theorem ctX8_clear_t {l : Launch} {E : Ge} {b : Bool} {M : Mem} {M1 : Mem} (h : fX8_clear_t M = some M1) : CT l E yX8_clear cX8_clear 1 none 1 0 0 [.ref (eB E + 1)] none (sh_ b) (nn b) M (sh_ b) (nn b) M1 := by
  refine met_of (by decide) (Nat.le_of_ble_eq_true rfl) ?_
  intro p e s m args below meth c X _ hR ls hl
  exact wX8_clear_t_0 X h hR hl
def fX8_hasVoter_t_17 (M : Mem) (s0 : Int32) : Option Int32 := some (s0 &&& 1)
def fX8_hasVoter_t_16 (M : Mem) : Option Int32 := fX8_hasVoter_t_17 M (0 : Int32)
def fX8_hasVoter_t (M : Mem) (x1 : Int32) : Option Int32 := (if x1 < 0 then fX8_hasVoter_t_16 M else (if (M.1 1 0) ≤ x1 then fX8_hasVoter_t_16 M else fX8_hasVoter_t_17 M (1 : Int32)))
set_option maxHeartbeats 4000000 in
set_option maxRecDepth 100000 in
theorem wX8_hasVoter_t_17 {r : Int32} {M : Mem} (X : CX E p s m args c meth cX8_hasVoter 2 (some .boolean) RX8) : ∀ {s0 : Int32} {H : Heap} {locs : List Loc} {ls : Array Slot}, fX8_hasVoter_t_17 M s0 = some r → Rl E (sh_ b) (nn b) s.heap M H locs → lv_has ls 2 [] → W p l e (rm 1 0 0) s m args below meth c H locs 0 0 (MQ below (qq E (some (.int r)) (sh_ b) (nn b) M) args s 0 0 (fr E)) (F0 m 17 ls [.int s0]) := by
  obtain ⟨hx, hb, hr, hml, hown, hts, hK, hN, hO, hlk, hbs⟩ := id X
  intro s0 H locs ls hf hR hl
  unfold fX8_hasVoter_t_17 at hf
  cases hf
  exact x_zret hx hb hr hlk hR rfl dX8_hasVoter_17
set_option maxHeartbeats 4000000 in
set_option maxRecDepth 100000 in
theorem wX8_hasVoter_t_16 {r : Int32} {M : Mem} (X : CX E p s m args c meth cX8_hasVoter 2 (some .boolean) RX8) : ∀ {H : Heap} {locs : List Loc} {ls : Array Slot}, fX8_hasVoter_t_16 M = some r → Rl E (sh_ b) (nn b) s.heap M H locs → lv_has ls 2 [] → W p l e (rm 1 0 0) s m args below meth c H locs 0 0 (MQ below (qq E (some (.int r)) (sh_ b) (nn b) M) args s 0 0 (fr E)) (F0 m 16 ls []) := by
  obtain ⟨hx, hb, hr, hml, hown, hts, hK, hN, hO, hlk, hbs⟩ := id X
  intro H locs ls hf hR hl
  unfold fX8_hasVoter_t_16 at hf
  refine lv_iconst (v := 0) hx hb dX8_hasVoter_16 (by decide) ?_
  exact wX8_hasVoter_t_17 X hf hR hl
set_option maxHeartbeats 4000000 in
set_option maxRecDepth 100000 in
theorem wX8_hasVoter_t_0 {r : Int32} {M : Mem} (X : CX E p s m args c meth cX8_hasVoter 2 (some .boolean) RX8) : ∀ {x1 : Int32} {H : Heap} {locs : List Loc} {ls : Array Slot}, fX8_hasVoter_t M x1 = some r → Rl E (sh_ b) (nn b) s.heap M H locs → lv_has ls 2 [(0, .ref (eB E + 1)), (1, .int x1)] → W p l e (rm 1 0 0) s m args below meth c H locs 0 0 (MQ below (qq E (some (.int r)) (sh_ b) (nn b) M) args s 0 0 (fr E)) (F0 m 0 ls []) := by
  obtain ⟨hx, hb, hr, hml, hown, hts, hK, hN, hO, hlk, hbs⟩ := id X
  intro x1 H locs ls hf hR hl
  unfold fX8_hasVoter_t at hf
  refine lv_iload_n hx hb dX8_hasVoter_0 rfl (lv_at hl 1 rfl) ?_
  refine lv_if_lt (tgt := 16) hx hb dX8_hasVoter_1 (by decide) (fun q1 => ?_) (fun q1 => ?_)
  · have hf := (br_if hf).1 q1
    exact wX8_hasVoter_t_16 X hf hR (lv_sub hl [] rfl)
  · have hf := (br_if hf).2 q1
    refine lv_iload_n hx hb dX8_hasVoter_4 rfl (lv_at hl 1 rfl) ?_
    refine lv_aload_n hx hb dX8_hasVoter_5 rfl (lv_at hl 0 rfl) ?_
    refine x_get hx hb hown hts hK hR kX8 (z_1 b) (j := 0) (by decide) fl_X8_36 (v := .int (M.1 1 0)) rfl dX8_hasVoter_6 ?_
    refine lv_icmp_ge (tgt := 16) hx hb dX8_hasVoter_9 (by decide) (fun q9 => ?_) (fun q9 => ?_)
    · have hf := (br_if hf).1 q9
      exact wX8_hasVoter_t_16 X hf hR (lv_sub hl [] rfl)
    · have hf := (br_if hf).2 q9
      refine lv_iconst (v := 1) hx hb dX8_hasVoter_12 (by decide) ?_
      refine lv_goto (tgt := 17) hx hb dX8_hasVoter_13 (by decide) ?_
      exact wX8_hasVoter_t_17 X hf hR (lv_sub hl [] rfl)
theorem ctX8_hasVoter_t {l : Launch} {E : Ge} {b : Bool} {M : Mem} {x1 : Int32} {r : Int32} (h : fX8_hasVoter_t M x1 = some r) : CT l E yX8_hasVoter cX8_hasVoter 2 (some .boolean) 1 0 0 [.ref (eB E + 1), .int x1] (some (.int r)) (sh_ b) (nn b) M (sh_ b) (nn b) M := by
  refine met_of (by decide) (Nat.le_of_ble_eq_true rfl) ?_
  intro p e s m args below meth c X _ hR ls hl
  exact wX8_hasVoter_t_0 X h hR hl
def fX8_hasPlace_t_17 (M : Mem) (s0 : Int32) : Option Int32 := some (s0 &&& 1)
def fX8_hasPlace_t_16 (M : Mem) : Option Int32 := fX8_hasPlace_t_17 M (0 : Int32)
def fX8_hasPlace_t (M : Mem) (x1 : Int32) : Option Int32 := (if x1 < 0 then fX8_hasPlace_t_16 M else (if (M.1 1 8) ≤ x1 then fX8_hasPlace_t_16 M else fX8_hasPlace_t_17 M (1 : Int32)))
set_option maxHeartbeats 4000000 in
set_option maxRecDepth 100000 in
theorem wX8_hasPlace_t_17 {r : Int32} {M : Mem} (X : CX E p s m args c meth cX8_hasPlace 2 (some .boolean) RX8) : ∀ {s0 : Int32} {H : Heap} {locs : List Loc} {ls : Array Slot}, fX8_hasPlace_t_17 M s0 = some r → Rl E (sh_ b) (nn b) s.heap M H locs → lv_has ls 2 [] → W p l e (rm 1 0 0) s m args below meth c H locs 0 0 (MQ below (qq E (some (.int r)) (sh_ b) (nn b) M) args s 0 0 (fr E)) (F0 m 17 ls [.int s0]) := by
  obtain ⟨hx, hb, hr, hml, hown, hts, hK, hN, hO, hlk, hbs⟩ := id X
  intro s0 H locs ls hf hR hl
  unfold fX8_hasPlace_t_17 at hf
  cases hf
  exact x_zret hx hb hr hlk hR rfl dX8_hasPlace_17
set_option maxHeartbeats 4000000 in
set_option maxRecDepth 100000 in
theorem wX8_hasPlace_t_16 {r : Int32} {M : Mem} (X : CX E p s m args c meth cX8_hasPlace 2 (some .boolean) RX8) : ∀ {H : Heap} {locs : List Loc} {ls : Array Slot}, fX8_hasPlace_t_16 M = some r → Rl E (sh_ b) (nn b) s.heap M H locs → lv_has ls 2 [] → W p l e (rm 1 0 0) s m args below meth c H locs 0 0 (MQ below (qq E (some (.int r)) (sh_ b) (nn b) M) args s 0 0 (fr E)) (F0 m 16 ls []) := by
  obtain ⟨hx, hb, hr, hml, hown, hts, hK, hN, hO, hlk, hbs⟩ := id X
  intro H locs ls hf hR hl
  unfold fX8_hasPlace_t_16 at hf
  refine lv_iconst (v := 0) hx hb dX8_hasPlace_16 (by decide) ?_
  exact wX8_hasPlace_t_17 X hf hR hl
set_option maxHeartbeats 4000000 in
set_option maxRecDepth 100000 in
theorem wX8_hasPlace_t_0 {r : Int32} {M : Mem} (X : CX E p s m args c meth cX8_hasPlace 2 (some .boolean) RX8) : ∀ {x1 : Int32} {H : Heap} {locs : List Loc} {ls : Array Slot}, fX8_hasPlace_t M x1 = some r → Rl E (sh_ b) (nn b) s.heap M H locs → lv_has ls 2 [(0, .ref (eB E + 1)), (1, .int x1)] → W p l e (rm 1 0 0) s m args below meth c H locs 0 0 (MQ below (qq E (some (.int r)) (sh_ b) (nn b) M) args s 0 0 (fr E)) (F0 m 0 ls []) := by
  obtain ⟨hx, hb, hr, hml, hown, hts, hK, hN, hO, hlk, hbs⟩ := id X
  intro x1 H locs ls hf hR hl
  unfold fX8_hasPlace_t at hf
  refine lv_iload_n hx hb dX8_hasPlace_0 rfl (lv_at hl 1 rfl) ?_
  refine lv_if_lt (tgt := 16) hx hb dX8_hasPlace_1 (by decide) (fun q1 => ?_) (fun q1 => ?_)
  · have hf := (br_if hf).1 q1
    exact wX8_hasPlace_t_16 X hf hR (lv_sub hl [] rfl)
  · have hf := (br_if hf).2 q1
    refine lv_iload_n hx hb dX8_hasPlace_4 rfl (lv_at hl 1 rfl) ?_
    refine lv_aload_n hx hb dX8_hasPlace_5 rfl (lv_at hl 0 rfl) ?_
    refine x_get hx hb hown hts hK hR kX8 (z_1 b) (j := 8) (by decide) fl_X8_43 (v := .int (M.1 1 8)) rfl dX8_hasPlace_6 ?_
    refine lv_icmp_ge (tgt := 16) hx hb dX8_hasPlace_9 (by decide) (fun q9 => ?_) (fun q9 => ?_)
    · have hf := (br_if hf).1 q9
      exact wX8_hasPlace_t_16 X hf hR (lv_sub hl [] rfl)
    · have hf := (br_if hf).2 q9
      refine lv_iconst (v := 1) hx hb dX8_hasPlace_12 (by decide) ?_
      refine lv_goto (tgt := 17) hx hb dX8_hasPlace_13 (by decide) ?_
      exact wX8_hasPlace_t_17 X hf hR (lv_sub hl [] rfl)
theorem ctX8_hasPlace_t {l : Launch} {E : Ge} {b : Bool} {M : Mem} {x1 : Int32} {r : Int32} (h : fX8_hasPlace_t M x1 = some r) : CT l E yX8_hasPlace cX8_hasPlace 2 (some .boolean) 1 0 0 [.ref (eB E + 1), .int x1] (some (.int r)) (sh_ b) (nn b) M (sh_ b) (nn b) M := by
  refine met_of (by decide) (Nat.le_of_ble_eq_true rfl) ?_
  intro p e s m args below meth c X _ hR ls hl
  exact wX8_hasPlace_t_0 X h hR hl
def fX8_isAt_t_25 (M : Mem) (s0 : Int32) : Option Int32 := some (s0 &&& 1)
def fX8_isAt_t_24 (M : Mem) : Option Int32 := fX8_isAt_t_25 M (0 : Int32)
def fX8_isAt_t (M : Mem) (x1 : Int32) (x2 : Int32) (x3 : Int32) : Option Int32 := (if inb x1 15 = true then (if (M.1 2 (ix x1)) = x2 then (if inb x1 15 = true then (if (M.1 3 (ix x1)) = x3 then fX8_isAt_t_25 M (1 : Int32) else fX8_isAt_t_24 M) else none) else fX8_isAt_t_24 M) else none)
set_option maxHeartbeats 4000000 in
set_option maxRecDepth 100000 in
theorem wX8_isAt_t_25 {r : Int32} {M : Mem} (X : CX E p s m args c meth cX8_isAt 4 (some .boolean) RX8) : ∀ {s0 : Int32} {H : Heap} {locs : List Loc} {ls : Array Slot}, fX8_isAt_t_25 M s0 = some r → Rl E (sh_ b) (nn b) s.heap M H locs → lv_has ls 4 [] → W p l e (rm 1 0 0) s m args below meth c H locs 0 0 (MQ below (qq E (some (.int r)) (sh_ b) (nn b) M) args s 0 0 (fr E)) (F0 m 25 ls [.int s0]) := by
  obtain ⟨hx, hb, hr, hml, hown, hts, hK, hN, hO, hlk, hbs⟩ := id X
  intro s0 H locs ls hf hR hl
  unfold fX8_isAt_t_25 at hf
  cases hf
  exact x_zret hx hb hr hlk hR rfl dX8_isAt_25
set_option maxHeartbeats 4000000 in
set_option maxRecDepth 100000 in
theorem wX8_isAt_t_24 {r : Int32} {M : Mem} (X : CX E p s m args c meth cX8_isAt 4 (some .boolean) RX8) : ∀ {H : Heap} {locs : List Loc} {ls : Array Slot}, fX8_isAt_t_24 M = some r → Rl E (sh_ b) (nn b) s.heap M H locs → lv_has ls 4 [] → W p l e (rm 1 0 0) s m args below meth c H locs 0 0 (MQ below (qq E (some (.int r)) (sh_ b) (nn b) M) args s 0 0 (fr E)) (F0 m 24 ls []) := by
  obtain ⟨hx, hb, hr, hml, hown, hts, hK, hN, hO, hlk, hbs⟩ := id X
  intro H locs ls hf hR hl
  unfold fX8_isAt_t_24 at hf
  refine lv_iconst (v := 0) hx hb dX8_isAt_24 (by decide) ?_
  exact wX8_isAt_t_25 X hf hR hl
set_option maxHeartbeats 4000000 in
set_option maxRecDepth 100000 in
theorem wX8_isAt_t_0 {r : Int32} {M : Mem} (X : CX E p s m args c meth cX8_isAt 4 (some .boolean) RX8) : ∀ {x1 : Int32} {x2 : Int32} {x3 : Int32} {H : Heap} {locs : List Loc} {ls : Array Slot}, fX8_isAt_t M x1 x2 x3 = some r → Rl E (sh_ b) (nn b) s.heap M H locs → lv_has ls 4 [(0, .ref (eB E + 1)), (1, .int x1), (2, .int x2), (3, .int x3)] → W p l e (rm 1 0 0) s m args below meth c H locs 0 0 (MQ below (qq E (some (.int r)) (sh_ b) (nn b) M) args s 0 0 (fr E)) (F0 m 0 ls []) := by
  obtain ⟨hx, hb, hr, hml, hown, hts, hK, hN, hO, hlk, hbs⟩ := id X
  intro x1 x2 x3 H locs ls hf hR hl
  unfold fX8_isAt_t at hf
  refine lv_aload_n hx hb dX8_isAt_0 rfl (lv_at hl 0 rfl) ?_
  refine x_get hx hb hown hts hK hR kX8 (z_1 b) (j := 1) (by decide) fl_X8_9 (v := .ref (eB E + 2)) rfl dX8_isAt_1 ?_
  refine lv_iload_n hx hb dX8_isAt_4 rfl (lv_at hl 1 rfl) ?_
  obtain ⟨g5, hf⟩ := br_g hf
  refine x_iald hx hb hK hR (z_2 b) g5 dX8_isAt_5 ?_
  refine lv_iload_n hx hb dX8_isAt_6 rfl (lv_at hl 2 rfl) ?_
  refine lv_icmp_ne (tgt := 24) hx hb dX8_isAt_7 (by decide) (fun q7 => ?_) (fun q7 => ?_)
  · have hf := (br_if hf).2 q7
    exact wX8_isAt_t_24 X hf hR (lv_sub hl [] rfl)
  · have hf := (br_if hf).1 q7
    refine lv_aload_n hx hb dX8_isAt_10 rfl (lv_at hl 0 rfl) ?_
    refine x_get hx hb hown hts hK hR kX8 (z_1 b) (j := 2) (by decide) fl_X8_15 (v := .ref (eB E + 3)) rfl dX8_isAt_11 ?_
    refine lv_iload_n hx hb dX8_isAt_14 rfl (lv_at hl 1 rfl) ?_
    obtain ⟨g15, hf⟩ := br_g hf
    refine x_iald hx hb hK hR (z_3 b) g15 dX8_isAt_15 ?_
    refine lv_iload_n hx hb dX8_isAt_16 rfl (lv_at hl 3 rfl) ?_
    refine lv_icmp_ne (tgt := 24) hx hb dX8_isAt_17 (by decide) (fun q17 => ?_) (fun q17 => ?_)
    · have hf := (br_if hf).2 q17
      exact wX8_isAt_t_24 X hf hR (lv_sub hl [] rfl)
    · have hf := (br_if hf).1 q17
      refine lv_iconst (v := 1) hx hb dX8_isAt_20 (by decide) ?_
      refine lv_goto (tgt := 25) hx hb dX8_isAt_21 (by decide) ?_
      exact wX8_isAt_t_25 X hf hR (lv_sub hl [] rfl)
theorem ctX8_isAt_t {l : Launch} {E : Ge} {b : Bool} {M : Mem} {x1 : Int32} {x2 : Int32} {x3 : Int32} {r : Int32} (h : fX8_isAt_t M x1 x2 x3 = some r) : CT l E yX8_isAt cX8_isAt 4 (some .boolean) 1 0 0 [.ref (eB E + 1), .int x1, .int x2, .int x3] (some (.int r)) (sh_ b) (nn b) M (sh_ b) (nn b) M := by
  refine met_of (by decide) (Nat.le_of_ble_eq_true rfl) ?_
  intro p e s m args below meth c X _ hR ls hl
  exact wX8_isAt_t_0 X h hR hl
def fX8_addVoter_t (x1 : Int32) (x2 : Int32) (x3 : Int32) (x4 : Int32) (x5 : Int32) (x6 : Int32) (M : Mem) : Option Mem := (if (M.1 1 0) < (15 : Int32) then (if inb (M.1 1 0) 15 = true then nx (sI M 2 (ix (M.1 1 0)) x1) (fun M19 => (if inb (M19.1 1 0) 15 = true then nx (sI M19 3 (ix (M19.1 1 0)) x2) (fun M29 => (if inb (M29.1 1 0) 15 = true then nx (sI M29 4 (ix (M29.1 1 0)) x3) (fun M39 => (if inb (M39.1 1 0) 15 = true then nx (sI M39 5 (ix (M39.1 1 0)) x4) (fun M50 => (if inb (M50.1 1 0) 15 = true then nx (sI M50 6 (ix (M50.1 1 0)) x5) (fun M61 => (if inb (M61.1 1 0) 15 = true then nx (sI M61 7 (ix (M61.1 1 0)) x6) (fun M72 => nx (sI M72 1 0 ((M72.1 1 0) + (1 : Int32))) (fun M80 => nx (sI M80 1 7 ((M80.1 1 7) + x3)) (fun M90 => nx (sI M90 1 14 ((M90.1 1 14) + (1 : Int32))) (fun M100 => some M100)))) else none)) else none)) else none)) else none)) else none)) else none) else some M)
set_option maxHeartbeats 4000000 in
set_option maxRecDepth 100000 in
theorem wX8_addVoter_t_0 {M1 : Mem} (X : CX E p s m args c meth cX8_addVoter 7 none RX8) : ∀ {x1 : Int32} {x2 : Int32} {x3 : Int32} {x4 : Int32} {x5 : Int32} {x6 : Int32} {M : Mem} {H : Heap} {locs : List Loc} {ls : Array Slot}, fX8_addVoter_t x1 x2 x3 x4 x5 x6 M = some M1 → Rl E (sh_ b) (nn b) s.heap M H locs → lv_has ls 7 [(0, .ref (eB E + 1)), (1, .int x1), (2, .int x2), (3, .int x3), (4, .int x4), (5, .int x5), (6, .int x6)] → W p l e (rm 1 0 0) s m args below meth c H locs 0 0 (MQ below (qq E none (sh_ b) (nn b) M1) args s 0 0 (fr E)) (F0 m 0 ls []) := by
  obtain ⟨hx, hb, hr, hml, hown, hts, hK, hN, hO, hlk, hbs⟩ := id X
  intro x1 x2 x3 x4 x5 x6 M H locs ls hf hR hl
  unfold fX8_addVoter_t at hf
  refine lv_aload_n hx hb dX8_addVoter_0 rfl (lv_at hl 0 rfl) ?_
  refine x_get hx hb hown hts hK hR kX8 (z_1 b) (j := 0) (by decide) fl_X8_36 (v := .int (M.1 1 0)) rfl dX8_addVoter_1 ?_
  refine lv_bipush (v := 15) hx hb dX8_addVoter_4 (by decide) ?_
  refine lv_icmp_lt (tgt := 10) hx hb dX8_addVoter_6 (by decide) (fun q6 => ?_) (fun q6 => ?_)
  · have hf := (br_if hf).1 q6
    refine lv_aload_n hx hb dX8_addVoter_10 rfl (lv_at hl 0 rfl) ?_
    refine x_get hx hb hown hts hK hR kX8 (z_1 b) (j := 1) (by decide) fl_X8_9 (v := .ref (eB E + 2)) rfl dX8_addVoter_11 ?_
    refine lv_aload_n hx hb dX8_addVoter_14 rfl (lv_at hl 0 rfl) ?_
    refine x_get hx hb hown hts hK hR kX8 (z_1 b) (j := 0) (by decide) fl_X8_36 (v := .int (M.1 1 0)) rfl dX8_addVoter_15 ?_
    refine lv_iload_n hx hb dX8_addVoter_18 rfl (lv_at hl 1 rfl) ?_
    obtain ⟨g19, hf⟩ := br_g hf
    refine x_iast hx hb hK hR (z_2 b) g19 dX8_addVoter_19 (fun H locs hR => ?_)
    obtain ⟨M19, e19⟩ : ∃ y : Mem, y = (sI M 2 (ix (M.1 1 0)) x1) := ⟨_, rfl⟩
    have hf := nx_at e19 hf
    have hR : Rl E (sh_ b) (nn b) s.heap M19 H locs := by rw [e19]; exact hR
    refine lv_aload_n hx hb dX8_addVoter_20 rfl (lv_at hl 0 rfl) ?_
    refine x_get hx hb hown hts hK hR kX8 (z_1 b) (j := 2) (by decide) fl_X8_15 (v := .ref (eB E + 3)) rfl dX8_addVoter_21 ?_
    refine lv_aload_n hx hb dX8_addVoter_24 rfl (lv_at hl 0 rfl) ?_
    refine x_get hx hb hown hts hK hR kX8 (z_1 b) (j := 0) (by decide) fl_X8_36 (v := .int (M19.1 1 0)) rfl dX8_addVoter_25 ?_
    refine lv_iload_n hx hb dX8_addVoter_28 rfl (lv_at hl 2 rfl) ?_
    obtain ⟨g29, hf⟩ := br_g hf
    refine x_iast hx hb hK hR (z_3 b) g29 dX8_addVoter_29 (fun H locs hR => ?_)
    obtain ⟨M29, e29⟩ : ∃ y : Mem, y = (sI M19 3 (ix (M19.1 1 0)) x2) := ⟨_, rfl⟩
    have hf := nx_at e29 hf
    have hR : Rl E (sh_ b) (nn b) s.heap M29 H locs := by rw [e29]; exact hR
    refine lv_aload_n hx hb dX8_addVoter_30 rfl (lv_at hl 0 rfl) ?_
    refine x_get hx hb hown hts hK hR kX8 (z_1 b) (j := 3) (by decide) fl_X8_18 (v := .ref (eB E + 4)) rfl dX8_addVoter_31 ?_
    refine lv_aload_n hx hb dX8_addVoter_34 rfl (lv_at hl 0 rfl) ?_
    refine x_get hx hb hown hts hK hR kX8 (z_1 b) (j := 0) (by decide) fl_X8_36 (v := .int (M29.1 1 0)) rfl dX8_addVoter_35 ?_
    refine lv_iload_n hx hb dX8_addVoter_38 rfl (lv_at hl 3 rfl) ?_
    obtain ⟨g39, hf⟩ := br_g hf
    refine x_iast hx hb hK hR (z_4 b) g39 dX8_addVoter_39 (fun H locs hR => ?_)
    obtain ⟨M39, e39⟩ : ∃ y : Mem, y = (sI M29 4 (ix (M29.1 1 0)) x3) := ⟨_, rfl⟩
    have hf := nx_at e39 hf
    have hR : Rl E (sh_ b) (nn b) s.heap M39 H locs := by rw [e39]; exact hR
    refine lv_aload_n hx hb dX8_addVoter_40 rfl (lv_at hl 0 rfl) ?_
    refine x_get hx hb hown hts hK hR kX8 (z_1 b) (j := 4) (by decide) fl_X8_21 (v := .ref (eB E + 5)) rfl dX8_addVoter_41 ?_
    refine lv_aload_n hx hb dX8_addVoter_44 rfl (lv_at hl 0 rfl) ?_
    refine x_get hx hb hown hts hK hR kX8 (z_1 b) (j := 0) (by decide) fl_X8_36 (v := .int (M39.1 1 0)) rfl dX8_addVoter_45 ?_
    refine lv_iload hx hb dX8_addVoter_48 (lv_at hl 4 rfl) ?_
    obtain ⟨g50, hf⟩ := br_g hf
    refine x_iast hx hb hK hR (z_5 b) g50 dX8_addVoter_50 (fun H locs hR => ?_)
    obtain ⟨M50, e50⟩ : ∃ y : Mem, y = (sI M39 5 (ix (M39.1 1 0)) x4) := ⟨_, rfl⟩
    have hf := nx_at e50 hf
    have hR : Rl E (sh_ b) (nn b) s.heap M50 H locs := by rw [e50]; exact hR
    refine lv_aload_n hx hb dX8_addVoter_51 rfl (lv_at hl 0 rfl) ?_
    refine x_get hx hb hown hts hK hR kX8 (z_1 b) (j := 5) (by decide) fl_X8_24 (v := .ref (eB E + 6)) rfl dX8_addVoter_52 ?_
    refine lv_aload_n hx hb dX8_addVoter_55 rfl (lv_at hl 0 rfl) ?_
    refine x_get hx hb hown hts hK hR kX8 (z_1 b) (j := 0) (by decide) fl_X8_36 (v := .int (M50.1 1 0)) rfl dX8_addVoter_56 ?_
    refine lv_iload hx hb dX8_addVoter_59 (lv_at hl 5 rfl) ?_
    obtain ⟨g61, hf⟩ := br_g hf
    refine x_iast hx hb hK hR (z_6 b) g61 dX8_addVoter_61 (fun H locs hR => ?_)
    obtain ⟨M61, e61⟩ : ∃ y : Mem, y = (sI M50 6 (ix (M50.1 1 0)) x5) := ⟨_, rfl⟩
    have hf := nx_at e61 hf
    have hR : Rl E (sh_ b) (nn b) s.heap M61 H locs := by rw [e61]; exact hR
    refine lv_aload_n hx hb dX8_addVoter_62 rfl (lv_at hl 0 rfl) ?_
    refine x_get hx hb hown hts hK hR kX8 (z_1 b) (j := 6) (by decide) fl_X8_27 (v := .ref (eB E + 7)) rfl dX8_addVoter_63 ?_
    refine lv_aload_n hx hb dX8_addVoter_66 rfl (lv_at hl 0 rfl) ?_
    refine x_get hx hb hown hts hK hR kX8 (z_1 b) (j := 0) (by decide) fl_X8_36 (v := .int (M61.1 1 0)) rfl dX8_addVoter_67 ?_
    refine lv_iload hx hb dX8_addVoter_70 (lv_at hl 6 rfl) ?_
    obtain ⟨g72, hf⟩ := br_g hf
    refine x_iast hx hb hK hR (z_7 b) g72 dX8_addVoter_72 (fun H locs hR => ?_)
    obtain ⟨M72, e72⟩ : ∃ y : Mem, y = (sI M61 7 (ix (M61.1 1 0)) x6) := ⟨_, rfl⟩
    have hf := nx_at e72 hf
    have hR : Rl E (sh_ b) (nn b) s.heap M72 H locs := by rw [e72]; exact hR
    refine lv_aload_n hx hb dX8_addVoter_73 rfl (lv_at hl 0 rfl) ?_
    refine lv_dup hx hb dX8_addVoter_74 rfl ?_
    refine x_get hx hb hown hts hK hR kX8 (z_1 b) (j := 0) (by decide) fl_X8_36 (v := .int (M72.1 1 0)) rfl dX8_addVoter_75 ?_
    refine lv_iconst (v := 1) hx hb dX8_addVoter_78 (by decide) ?_
    refine lv_iadd hx hb dX8_addVoter_79 ?_
    refine x_puti hx hb hown hts hK hR kX8 (z_1 b) (j := 0) (by decide) fl_X8_36 rfl rfl rfl rfl dX8_addVoter_80 (fun H locs hR => ?_)
    obtain ⟨M80, e80⟩ : ∃ y : Mem, y = (sI M72 1 0 ((M72.1 1 0) + (1 : Int32))) := ⟨_, rfl⟩
    have hf := nx_at e80 hf
    have hR : Rl E (sh_ b) (nn b) s.heap M80 H locs := by rw [e80]; exact hR
    refine lv_aload_n hx hb dX8_addVoter_83 rfl (lv_at hl 0 rfl) ?_
    refine lv_dup hx hb dX8_addVoter_84 rfl ?_
    refine x_get hx hb hown hts hK hR kX8 (z_1 b) (j := 7) (by decide) fl_X8_40 (v := .int (M80.1 1 7)) rfl dX8_addVoter_85 ?_
    refine lv_iload_n hx hb dX8_addVoter_88 rfl (lv_at hl 3 rfl) ?_
    refine lv_iadd hx hb dX8_addVoter_89 ?_
    refine x_puti hx hb hown hts hK hR kX8 (z_1 b) (j := 7) (by decide) fl_X8_40 rfl rfl rfl rfl dX8_addVoter_90 (fun H locs hR => ?_)
    obtain ⟨M90, e90⟩ : ∃ y : Mem, y = (sI M80 1 7 ((M80.1 1 7) + x3)) := ⟨_, rfl⟩
    have hf := nx_at e90 hf
    have hR : Rl E (sh_ b) (nn b) s.heap M90 H locs := by rw [e90]; exact hR
    refine lv_aload_n hx hb dX8_addVoter_93 rfl (lv_at hl 0 rfl) ?_
    refine lv_dup hx hb dX8_addVoter_94 rfl ?_
    refine x_get hx hb hown hts hK hR kX8 (z_1 b) (j := 14) (by decide) fl_X8_55 (v := .int (M90.1 1 14)) rfl dX8_addVoter_95 ?_
    refine lv_iconst (v := 1) hx hb dX8_addVoter_98 (by decide) ?_
    refine lv_iadd hx hb dX8_addVoter_99 ?_
    refine x_puti hx hb hown hts hK hR kX8 (z_1 b) (j := 14) (by decide) fl_X8_55 rfl rfl rfl rfl dX8_addVoter_100 (fun H locs hR => ?_)
    obtain ⟨M100, e100⟩ : ∃ y : Mem, y = (sI M90 1 14 ((M90.1 1 14) + (1 : Int32))) := ⟨_, rfl⟩
    have hf := nx_at e100 hf
    have hR : Rl E (sh_ b) (nn b) s.heap M100 H locs := by rw [e100]; exact hR
    cases hf
    exact x_vret hx hb hr hlk hR dX8_addVoter_103
  · have hf := (br_if hf).2 q6
    cases hf
    exact x_vret hx hb hr hlk hR dX8_addVoter_9
theorem ctX8_addVoter_t {l : Launch} {E : Ge} {b : Bool} {M : Mem} {x1 : Int32} {x2 : Int32} {x3 : Int32} {x4 : Int32} {x5 : Int32} {x6 : Int32} {M1 : Mem} (h : fX8_addVoter_t x1 x2 x3 x4 x5 x6 M = some M1) : CT l E yX8_addVoter cX8_addVoter 7 none 1 0 0 [.ref (eB E + 1), .int x1, .int x2, .int x3, .int x4, .int x5, .int x6] none (sh_ b) (nn b) M (sh_ b) (nn b) M1 := by
  refine met_of (by decide) (Nat.le_of_ble_eq_true rfl) ?_
  intro p e s m args below meth c X _ hR ls hl
  exact wX8_addVoter_t_0 X h hR hl
def fX8_addPlace_t (x1 : Int32) (x2 : Int32) (M : Mem) : Option Mem := (if (M.1 1 8) < (20 : Int32) then (if inb (M.1 1 8) 20 = true then nx (sI M 8 (ix (M.1 1 8)) x1) (fun M19 => (if inb (M19.1 1 8) 20 = true then nx (sI M19 9 (ix (M19.1 1 8)) x2) (fun M29 => nx (sI M29 1 8 ((M29.1 1 8) + (1 : Int32))) (fun M37 => nx (sI M37 1 15 ((M37.1 1 15) + (1 : Int32))) (fun M47 => some M47))) else none)) else none) else some M)
set_option maxHeartbeats 4000000 in
set_option maxRecDepth 100000 in
theorem wX8_addPlace_t_0 {M1 : Mem} (X : CX E p s m args c meth cX8_addPlace 3 none RX8) : ∀ {x1 : Int32} {x2 : Int32} {M : Mem} {H : Heap} {locs : List Loc} {ls : Array Slot}, fX8_addPlace_t x1 x2 M = some M1 → Rl E (sh_ b) (nn b) s.heap M H locs → lv_has ls 3 [(0, .ref (eB E + 1)), (1, .int x1), (2, .int x2)] → W p l e (rm 1 0 0) s m args below meth c H locs 0 0 (MQ below (qq E none (sh_ b) (nn b) M1) args s 0 0 (fr E)) (F0 m 0 ls []) := by
  obtain ⟨hx, hb, hr, hml, hown, hts, hK, hN, hO, hlk, hbs⟩ := id X
  intro x1 x2 M H locs ls hf hR hl
  unfold fX8_addPlace_t at hf
  refine lv_aload_n hx hb dX8_addPlace_0 rfl (lv_at hl 0 rfl) ?_
  refine x_get hx hb hown hts hK hR kX8 (z_1 b) (j := 8) (by decide) fl_X8_43 (v := .int (M.1 1 8)) rfl dX8_addPlace_1 ?_
  refine lv_bipush (v := 20) hx hb dX8_addPlace_4 (by decide) ?_
  refine lv_icmp_lt (tgt := 10) hx hb dX8_addPlace_6 (by decide) (fun q6 => ?_) (fun q6 => ?_)
  · have hf := (br_if hf).1 q6
    refine lv_aload_n hx hb dX8_addPlace_10 rfl (lv_at hl 0 rfl) ?_
    refine x_get hx hb hown hts hK hR kX8 (z_1 b) (j := 9) (by decide) fl_X8_30 (v := .ref (eB E + 8)) rfl dX8_addPlace_11 ?_
    refine lv_aload_n hx hb dX8_addPlace_14 rfl (lv_at hl 0 rfl) ?_
    refine x_get hx hb hown hts hK hR kX8 (z_1 b) (j := 8) (by decide) fl_X8_43 (v := .int (M.1 1 8)) rfl dX8_addPlace_15 ?_
    refine lv_iload_n hx hb dX8_addPlace_18 rfl (lv_at hl 1 rfl) ?_
    obtain ⟨g19, hf⟩ := br_g hf
    refine x_iast hx hb hK hR (z_8 b) g19 dX8_addPlace_19 (fun H locs hR => ?_)
    obtain ⟨M19, e19⟩ : ∃ y : Mem, y = (sI M 8 (ix (M.1 1 8)) x1) := ⟨_, rfl⟩
    have hf := nx_at e19 hf
    have hR : Rl E (sh_ b) (nn b) s.heap M19 H locs := by rw [e19]; exact hR
    refine lv_aload_n hx hb dX8_addPlace_20 rfl (lv_at hl 0 rfl) ?_
    refine x_get hx hb hown hts hK hR kX8 (z_1 b) (j := 10) (by decide) fl_X8_33 (v := .ref (eB E + 9)) rfl dX8_addPlace_21 ?_
    refine lv_aload_n hx hb dX8_addPlace_24 rfl (lv_at hl 0 rfl) ?_
    refine x_get hx hb hown hts hK hR kX8 (z_1 b) (j := 8) (by decide) fl_X8_43 (v := .int (M19.1 1 8)) rfl dX8_addPlace_25 ?_
    refine lv_iload_n hx hb dX8_addPlace_28 rfl (lv_at hl 2 rfl) ?_
    obtain ⟨g29, hf⟩ := br_g hf
    refine x_iast hx hb hK hR (z_9 b) g29 dX8_addPlace_29 (fun H locs hR => ?_)
    obtain ⟨M29, e29⟩ : ∃ y : Mem, y = (sI M19 9 (ix (M19.1 1 8)) x2) := ⟨_, rfl⟩
    have hf := nx_at e29 hf
    have hR : Rl E (sh_ b) (nn b) s.heap M29 H locs := by rw [e29]; exact hR
    refine lv_aload_n hx hb dX8_addPlace_30 rfl (lv_at hl 0 rfl) ?_
    refine lv_dup hx hb dX8_addPlace_31 rfl ?_
    refine x_get hx hb hown hts hK hR kX8 (z_1 b) (j := 8) (by decide) fl_X8_43 (v := .int (M29.1 1 8)) rfl dX8_addPlace_32 ?_
    refine lv_iconst (v := 1) hx hb dX8_addPlace_35 (by decide) ?_
    refine lv_iadd hx hb dX8_addPlace_36 ?_
    refine x_puti hx hb hown hts hK hR kX8 (z_1 b) (j := 8) (by decide) fl_X8_43 rfl rfl rfl rfl dX8_addPlace_37 (fun H locs hR => ?_)
    obtain ⟨M37, e37⟩ : ∃ y : Mem, y = (sI M29 1 8 ((M29.1 1 8) + (1 : Int32))) := ⟨_, rfl⟩
    have hf := nx_at e37 hf
    have hR : Rl E (sh_ b) (nn b) s.heap M37 H locs := by rw [e37]; exact hR
    refine lv_aload_n hx hb dX8_addPlace_40 rfl (lv_at hl 0 rfl) ?_
    refine lv_dup hx hb dX8_addPlace_41 rfl ?_
    refine x_get hx hb hown hts hK hR kX8 (z_1 b) (j := 15) (by decide) fl_X8_58 (v := .int (M37.1 1 15)) rfl dX8_addPlace_42 ?_
    refine lv_iconst (v := 1) hx hb dX8_addPlace_45 (by decide) ?_
    refine lv_iadd hx hb dX8_addPlace_46 ?_
    refine x_puti hx hb hown hts hK hR kX8 (z_1 b) (j := 15) (by decide) fl_X8_58 rfl rfl rfl rfl dX8_addPlace_47 (fun H locs hR => ?_)
    obtain ⟨M47, e47⟩ : ∃ y : Mem, y = (sI M37 1 15 ((M37.1 1 15) + (1 : Int32))) := ⟨_, rfl⟩
    have hf := nx_at e47 hf
    have hR : Rl E (sh_ b) (nn b) s.heap M47 H locs := by rw [e47]; exact hR
    cases hf
    exact x_vret hx hb hr hlk hR dX8_addPlace_50
  · have hf := (br_if hf).2 q6
    cases hf
    exact x_vret hx hb hr hlk hR dX8_addPlace_9
theorem ctX8_addPlace_t {l : Launch} {E : Ge} {b : Bool} {M : Mem} {x1 : Int32} {x2 : Int32} {M1 : Mem} (h : fX8_addPlace_t x1 x2 M = some M1) : CT l E yX8_addPlace cX8_addPlace 3 none 1 0 0 [.ref (eB E + 1), .int x1, .int x2] none (sh_ b) (nn b) M (sh_ b) (nn b) M1 := by
  refine met_of (by decide) (Nat.le_of_ble_eq_true rfl) ?_
  intro p e s m args below meth c X _ hR ls hl
  exact wX8_addPlace_t_0 X h hR hl
def fX8_put_t (x1 : Int32) (x2 : Int32) (x3 : Int32) (M : Mem) : Option Mem := (fX8_hasVoter_t M x1).bind (fun q2 => (if q2 = 0 then some M else (if inb x1 15 = true then nx (sI M 2 (ix x1) x2) (fun M15 => (if inb x1 15 = true then nx (sI M15 3 (ix x1) x3) (fun M22 => nx (sI M22 1 14 ((M22.1 1 14) + (1 : Int32))) (fun M30 => some M30)) else none)) else none)))
set_option maxHeartbeats 4000000 in
set_option maxRecDepth 100000 in
theorem wX8_put_t_0 {M1 : Mem} (X : CX E p s m args c meth cX8_put 4 none RX8) : ∀ {x1 : Int32} {x2 : Int32} {x3 : Int32} {M : Mem} {H : Heap} {locs : List Loc} {ls : Array Slot}, fX8_put_t x1 x2 x3 M = some M1 → Rl E (sh_ b) (nn b) s.heap M H locs → lv_has ls 4 [(0, .ref (eB E + 1)), (1, .int x1), (2, .int x2), (3, .int x3)] → W p l e (rm 2 0 0) s m args below meth c H locs 0 0 (MQ below (qq E none (sh_ b) (nn b) M1) args s 0 0 (fr E)) (F0 m 0 ls []) := by
  obtain ⟨hx, hb, hr, hml, hown, hts, hK, hN, hO, hlk, hbs⟩ := id X
  intro x1 x2 x3 M H locs ls hf hR hl
  unfold fX8_put_t at hf
  refine lv_aload_n hx hb dX8_put_0 rfl (lv_at hl 0 rfl) ?_
  refine lv_iload_n hx hb dX8_put_1 rfl (lv_at hl 1 rfl) ?_
  obtain ⟨q2, c2, hf⟩ := br_b hf
  refine x_callV (k := 1) (As := [.int x1]) (rest := []) (st1 := [.int q2]) X hR (ctX8_hasVoter_t c2) ml_X8_61 im_X8_hasVoter se_X8_hasVoter in_X8 co_X8_hasVoter yo_X8_hasVoter rfl kX8 (z_1 b) (rm_ok (by decide) (by decide)) rfl hl.1 rfl rfl (Nat.le_of_ble_eq_true rfl) dX8_put_2 ⟨Nat.zero_le _, Nat.zero_le _⟩ (fun H locs hR => ?_)
  refine lv_if_ne (tgt := 9) hx hb dX8_put_5 (by decide) (fun q5 => ?_) (fun q5 => ?_)
  · have hf := (br_if hf).2 q5
    refine lv_aload_n hx hb dX8_put_9 rfl (lv_at hl 0 rfl) ?_
    refine x_get hx hb hown hts hK hR kX8 (z_1 b) (j := 1) (by decide) fl_X8_9 (v := .ref (eB E + 2)) rfl dX8_put_10 ?_
    refine lv_iload_n hx hb dX8_put_13 rfl (lv_at hl 1 rfl) ?_
    refine lv_iload_n hx hb dX8_put_14 rfl (lv_at hl 2 rfl) ?_
    obtain ⟨g15, hf⟩ := br_g hf
    refine x_iast hx hb hK hR (z_2 b) g15 dX8_put_15 (fun H locs hR => ?_)
    obtain ⟨M15, e15⟩ : ∃ y : Mem, y = (sI M 2 (ix x1) x2) := ⟨_, rfl⟩
    have hf := nx_at e15 hf
    have hR : Rl E (sh_ b) (nn b) s.heap M15 H locs := by rw [e15]; exact hR
    refine lv_aload_n hx hb dX8_put_16 rfl (lv_at hl 0 rfl) ?_
    refine x_get hx hb hown hts hK hR kX8 (z_1 b) (j := 2) (by decide) fl_X8_15 (v := .ref (eB E + 3)) rfl dX8_put_17 ?_
    refine lv_iload_n hx hb dX8_put_20 rfl (lv_at hl 1 rfl) ?_
    refine lv_iload_n hx hb dX8_put_21 rfl (lv_at hl 3 rfl) ?_
    obtain ⟨g22, hf⟩ := br_g hf
    refine x_iast hx hb hK hR (z_3 b) g22 dX8_put_22 (fun H locs hR => ?_)
    obtain ⟨M22, e22⟩ : ∃ y : Mem, y = (sI M15 3 (ix x1) x3) := ⟨_, rfl⟩
    have hf := nx_at e22 hf
    have hR : Rl E (sh_ b) (nn b) s.heap M22 H locs := by rw [e22]; exact hR
    refine lv_aload_n hx hb dX8_put_23 rfl (lv_at hl 0 rfl) ?_
    refine lv_dup hx hb dX8_put_24 rfl ?_
    refine x_get hx hb hown hts hK hR kX8 (z_1 b) (j := 14) (by decide) fl_X8_55 (v := .int (M22.1 1 14)) rfl dX8_put_25 ?_
    refine lv_iconst (v := 1) hx hb dX8_put_28 (by decide) ?_
    refine lv_iadd hx hb dX8_put_29 ?_
    refine x_puti hx hb hown hts hK hR kX8 (z_1 b) (j := 14) (by decide) fl_X8_55 rfl rfl rfl rfl dX8_put_30 (fun H locs hR => ?_)
    obtain ⟨M30, e30⟩ : ∃ y : Mem, y = (sI M22 1 14 ((M22.1 1 14) + (1 : Int32))) := ⟨_, rfl⟩
    have hf := nx_at e30 hf
    have hR : Rl E (sh_ b) (nn b) s.heap M30 H locs := by rw [e30]; exact hR
    cases hf
    exact x_vret hx hb hr hlk hR dX8_put_33
  · have hf := (br_if hf).1 q5
    cases hf
    exact x_vret hx hb hr hlk hR dX8_put_8
theorem ctX8_put_t {l : Launch} {E : Ge} {b : Bool} {M : Mem} {x1 : Int32} {x2 : Int32} {x3 : Int32} {M1 : Mem} (h : fX8_put_t x1 x2 x3 M = some M1) : CT l E yX8_put cX8_put 4 none 2 0 0 [.ref (eB E + 1), .int x1, .int x2, .int x3] none (sh_ b) (nn b) M (sh_ b) (nn b) M1 := by
  refine met_of (by decide) (Nat.le_of_ble_eq_true rfl) ?_
  intro p e s m args below meth c X _ hR ls hl
  exact wX8_put_t_0 X h hR hl
def fX8_wayOver_t (M : Mem) (x1 : Int32) (x2 : Int32) (x3 : Int32) : Option Int32 := (if inb x1 15 = true then nx (x2 * (M.1 6 (ix x1))) (fun v8 => (if inb x1 15 = true then nx (x3 * (M.1 7 (ix x1))) (fun v18 => (if inb x1 15 = true then (if (M.1 5 (ix x1)) = (0 : Int32) then some ((v8 * v8) + (v18 * v18)) else (if (M.1 5 (ix x1)) = (1 : Int32) then some (v8 + v18) else (if (M.1 5 (ix x1)) = (2 : Int32) then some (imax v8 v18) else some v8))) else none)) else none)) else none)
set_option maxHeartbeats 4000000 in
set_option maxRecDepth 100000 in
theorem wX8_wayOver_t_0 {r : Int32} {M : Mem} (X : CX E p s m args c meth cX8_wayOver 6 (some .int) RX8) : ∀ {x1 : Int32} {x2 : Int32} {x3 : Int32} {H : Heap} {locs : List Loc} {ls : Array Slot}, fX8_wayOver_t M x1 x2 x3 = some r → Rl E (sh_ b) (nn b) s.heap M H locs → lv_has ls 6 [(0, .ref (eB E + 1)), (1, .int x1), (2, .int x2), (3, .int x3)] → W p l e (rm 2 0 0) s m args below meth c H locs 0 0 (MQ below (qq E (some (.int r)) (sh_ b) (nn b) M) args s 0 0 (fr E)) (F0 m 0 ls []) := by
  obtain ⟨hx, hb, hr, hml, hown, hts, hK, hN, hO, hlk, hbs⟩ := id X
  intro x1 x2 x3 H locs ls hf hR hl
  unfold fX8_wayOver_t at hf
  refine lv_iload_n hx hb dX8_wayOver_0 rfl (lv_at hl 2 rfl) ?_
  refine lv_aload_n hx hb dX8_wayOver_1 rfl (lv_at hl 0 rfl) ?_
  refine x_get hx hb hown hts hK hR kX8 (z_1 b) (j := 5) (by decide) fl_X8_24 (v := .ref (eB E + 6)) rfl dX8_wayOver_2 ?_
  refine lv_iload_n hx hb dX8_wayOver_5 rfl (lv_at hl 1 rfl) ?_
  obtain ⟨g6, hf⟩ := br_g hf
  refine x_iald hx hb hK hR (z_6 b) g6 dX8_wayOver_6 ?_
  refine lv_imul hx hb dX8_wayOver_7 ?_
  refine lv_topi (fun v8 e8 => ?_)
  have hf := nx_at e8 hf
  refine lv_istore (lv' := [(4, .int v8), (0, .ref (eB E + 1)), (1, .int x1), (2, .int x2), (3, .int x3)]) hx hb dX8_wayOver_8 hl (by decide) rfl (fun ls hl => ?_)
  refine lv_iload_n hx hb dX8_wayOver_10 rfl (lv_at hl 4 rfl) ?_
  refine lv_aload_n hx hb dX8_wayOver_11 rfl (lv_at hl 1 rfl) ?_
  refine x_get hx hb hown hts hK hR kX8 (z_1 b) (j := 6) (by decide) fl_X8_27 (v := .ref (eB E + 7)) rfl dX8_wayOver_12 ?_
  refine lv_iload_n hx hb dX8_wayOver_15 rfl (lv_at hl 2 rfl) ?_
  obtain ⟨g16, hf⟩ := br_g hf
  refine x_iald hx hb hK hR (z_7 b) g16 dX8_wayOver_16 ?_
  refine lv_imul hx hb dX8_wayOver_17 ?_
  refine lv_topi (fun v18 e18 => ?_)
  have hf := nx_at e18 hf
  refine lv_istore (lv' := [(5, .int v18), (4, .int v8), (0, .ref (eB E + 1)), (1, .int x1), (2, .int x2), (3, .int x3)]) hx hb dX8_wayOver_18 hl (by decide) rfl (fun ls hl => ?_)
  refine lv_aload_n hx hb dX8_wayOver_20 rfl (lv_at hl 2 rfl) ?_
  refine x_get hx hb hown hts hK hR kX8 (z_1 b) (j := 4) (by decide) fl_X8_21 (v := .ref (eB E + 5)) rfl dX8_wayOver_21 ?_
  refine lv_iload_n hx hb dX8_wayOver_24 rfl (lv_at hl 3 rfl) ?_
  obtain ⟨g25, hf⟩ := br_g hf
  refine x_iald hx hb hK hR (z_5 b) g25 dX8_wayOver_25 ?_
  by_cases q26_0 : (M.1 5 (ix x1)) = (0 : Int32)
  · have hf := (br_if hf).1 q26_0
    refine x_tsw (v := 0) (tgt := 52) hx hb dX8_wayOver_26 q26_0 (by decide) (by decide) (off := 26) (by decide) (by decide) ?_
    refine lv_iload hx hb dX8_wayOver_52 (lv_at hl 1 rfl) ?_
    refine lv_iload hx hb dX8_wayOver_54 (lv_at hl 1 rfl) ?_
    refine lv_imul hx hb dX8_wayOver_56 ?_
    refine lv_iload hx hb dX8_wayOver_57 (lv_at hl 0 rfl) ?_
    refine lv_iload hx hb dX8_wayOver_59 (lv_at hl 0 rfl) ?_
    refine lv_imul hx hb dX8_wayOver_61 ?_
    refine lv_iadd hx hb dX8_wayOver_62 ?_
    cases hf
    exact x_iret hx hb hr hlk hR dX8_wayOver_63
  · have hf := (br_if hf).2 q26_0
    by_cases q26_1 : (M.1 5 (ix x1)) = (1 : Int32)
    · have hf := (br_if hf).1 q26_1
      refine x_tsw (v := 1) (tgt := 64) hx hb dX8_wayOver_26 q26_1 (by decide) (by decide) (off := 38) (by decide) (by decide) ?_
      refine lv_iload hx hb dX8_wayOver_64 (lv_at hl 1 rfl) ?_
      refine lv_iload hx hb dX8_wayOver_66 (lv_at hl 0 rfl) ?_
      refine lv_iadd hx hb dX8_wayOver_68 ?_
      cases hf
      exact x_iret hx hb hr hlk hR dX8_wayOver_69
    · have hf := (br_if hf).2 q26_1
      by_cases q26_2 : (M.1 5 (ix x1)) = (2 : Int32)
      · have hf := (br_if hf).1 q26_2
        refine x_tsw (v := 2) (tgt := 70) hx hb dX8_wayOver_26 q26_2 (by decide) (by decide) (off := 44) (by decide) (by decide) ?_
        refine lv_iload hx hb dX8_wayOver_70 (lv_at hl 1 rfl) ?_
        refine lv_iload hx hb dX8_wayOver_72 (lv_at hl 0 rfl) ?_
        refine va_mmax hx hb (by rw [hml]; exact hl.1.symm) hown (hts _ ml_X8_76) (hts _ st_max) (hts _ in_J9) (hts _ co_max) (by decide) (Nat.le_of_ble_eq_true rfl) (Nat.zero_le _) (Nat.zero_le _) dX8_wayOver_74 ?_
        refine W.eq (g2 := F0 m 77 ls [.int (imax v8 v18)]) rfl ?_
        cases hf
        exact x_iret hx hb hr hlk hR dX8_wayOver_77
      · have hf := (br_if hf).2 q26_2
        refine lv_tableOut (tgt := 78) hx hb dX8_wayOver_26 (by have a0 := lv_neT q26_0 (show (0 : Int32).toInt = 0 from rfl); have a1 := lv_neT q26_1 (show (1 : Int32).toInt = 1 from rfl); have a2 := lv_neT q26_2 (show (2 : Int32).toInt = 2 from rfl); omega) (by decide) ?_
        refine lv_iload hx hb dX8_wayOver_78 (lv_at hl 1 rfl) ?_
        cases hf
        exact x_iret hx hb hr hlk hR dX8_wayOver_80
theorem ctX8_wayOver_t {l : Launch} {E : Ge} {b : Bool} {M : Mem} {x1 : Int32} {x2 : Int32} {x3 : Int32} {r : Int32} (h : fX8_wayOver_t M x1 x2 x3 = some r) : CT l E yX8_wayOver cX8_wayOver 6 (some .int) 2 0 0 [.ref (eB E + 1), .int x1, .int x2, .int x3] (some (.int r)) (sh_ b) (nn b) M (sh_ b) (nn b) M := by
  refine met_of (by decide) (Nat.le_of_ble_eq_true rfl) ?_
  intro p e s m args below meth c X _ hR ls hl
  exact wX8_wayOver_t_0 X h hR hl
def fX8_wayTo_t (M : Mem) (x1 : Int32) (x2 : Int32) (x3 : Int32) : Option Int32 := (if inb x1 15 = true then (if inb x1 15 = true then (fX8_wayOver_t M x1 (iabs (x2 - (M.1 2 (ix x1)))) (iabs (x3 - (M.1 3 (ix x1))))).bind (fun q24 => some q24) else none) else none)
set_option maxHeartbeats 4000000 in
set_option maxRecDepth 100000 in
theorem wX8_wayTo_t_0 {r : Int32} {M : Mem} (X : CX E p s m args c meth cX8_wayTo 4 (some .int) RX8) : ∀ {x1 : Int32} {x2 : Int32} {x3 : Int32} {H : Heap} {locs : List Loc} {ls : Array Slot}, fX8_wayTo_t M x1 x2 x3 = some r → Rl E (sh_ b) (nn b) s.heap M H locs → lv_has ls 4 [(0, .ref (eB E + 1)), (1, .int x1), (2, .int x2), (3, .int x3)] → W p l e (rm 3 0 0) s m args below meth c H locs 0 0 (MQ below (qq E (some (.int r)) (sh_ b) (nn b) M) args s 0 0 (fr E)) (F0 m 0 ls []) := by
  obtain ⟨hx, hb, hr, hml, hown, hts, hK, hN, hO, hlk, hbs⟩ := id X
  intro x1 x2 x3 H locs ls hf hR hl
  unfold fX8_wayTo_t at hf
  refine lv_aload_n hx hb dX8_wayTo_0 rfl (lv_at hl 0 rfl) ?_
  refine lv_iload_n hx hb dX8_wayTo_1 rfl (lv_at hl 1 rfl) ?_
  refine lv_iload_n hx hb dX8_wayTo_2 rfl (lv_at hl 2 rfl) ?_
  refine lv_aload_n hx hb dX8_wayTo_3 rfl (lv_at hl 0 rfl) ?_
  refine x_get hx hb hown hts hK hR kX8 (z_1 b) (j := 1) (by decide) fl_X8_9 (v := .ref (eB E + 2)) rfl dX8_wayTo_4 ?_
  refine lv_iload_n hx hb dX8_wayTo_7 rfl (lv_at hl 1 rfl) ?_
  obtain ⟨g8, hf⟩ := br_g hf
  refine x_iald hx hb hK hR (z_2 b) g8 dX8_wayTo_8 ?_
  refine lv_isub hx hb dX8_wayTo_9 ?_
  refine va_mabs hx hb (by rw [hml]; exact hl.1.symm) hown (hts _ ml_X8_82) (hts _ st_abs) (hts _ in_J9) (hts _ co_abs) (by decide) (Nat.le_of_ble_eq_true rfl) (Nat.zero_le _) (Nat.zero_le _) dX8_wayTo_10 ?_
  refine W.eq (g2 := F0 m 13 ls [.int (iabs (x2 - (M.1 2 (ix x1)))), .int x1, .ref (eB E + 1)]) rfl ?_
  refine lv_iload_n hx hb dX8_wayTo_13 rfl (lv_at hl 3 rfl) ?_
  refine lv_aload_n hx hb dX8_wayTo_14 rfl (lv_at hl 0 rfl) ?_
  refine x_get hx hb hown hts hK hR kX8 (z_1 b) (j := 2) (by decide) fl_X8_15 (v := .ref (eB E + 3)) rfl dX8_wayTo_15 ?_
  refine lv_iload_n hx hb dX8_wayTo_18 rfl (lv_at hl 1 rfl) ?_
  obtain ⟨g19, hf⟩ := br_g hf
  refine x_iald hx hb hK hR (z_3 b) g19 dX8_wayTo_19 ?_
  refine lv_isub hx hb dX8_wayTo_20 ?_
  refine va_mabs hx hb (by rw [hml]; exact hl.1.symm) hown (hts _ ml_X8_82) (hts _ st_abs) (hts _ in_J9) (hts _ co_abs) (by decide) (Nat.le_of_ble_eq_true rfl) (Nat.zero_le _) (Nat.zero_le _) dX8_wayTo_21 ?_
  refine W.eq (g2 := F0 m 24 ls [.int (iabs (x3 - (M.1 3 (ix x1)))), .int (iabs (x2 - (M.1 2 (ix x1)))), .int x1, .ref (eB E + 1)]) rfl ?_
  obtain ⟨q24, c24, hf⟩ := br_b hf
  refine x_callV (k := 1) (As := [.int x1, .int (iabs (x2 - (M.1 2 (ix x1)))), .int (iabs (x3 - (M.1 3 (ix x1))))]) (rest := []) (st1 := [.int q24]) X hR (ctX8_wayOver_t c24) ml_X8_86 im_X8_wayOver se_X8_wayOver in_X8 co_X8_wayOver yo_X8_wayOver rfl kX8 (z_1 b) (rm_ok (by decide) (by decide)) rfl hl.1 rfl rfl (Nat.le_of_ble_eq_true rfl) dX8_wayTo_24 ⟨Nat.zero_le _, Nat.zero_le _⟩ (fun H locs hR => ?_)
  cases hf
  exact x_iret hx hb hr hlk hR dX8_wayTo_27
theorem ctX8_wayTo_t {l : Launch} {E : Ge} {b : Bool} {M : Mem} {x1 : Int32} {x2 : Int32} {x3 : Int32} {r : Int32} (h : fX8_wayTo_t M x1 x2 x3 = some r) : CT l E yX8_wayTo cX8_wayTo 4 (some .int) 3 0 0 [.ref (eB E + 1), .int x1, .int x2, .int x3] (some (.int r)) (sh_ b) (nn b) M (sh_ b) (nn b) M := by
  refine met_of (by decide) (Nat.le_of_ble_eq_true rfl) ?_
  intro p e s m args below meth c X _ hR ls hl
  exact wX8_wayTo_t_0 X h hR hl
def fX8_weightFor_t_63 (M : Mem) (k5 : Int32 → Int32 → Int32 → Int32 → Option Int32) (k69 : Int32 → Option Int32) (x1 : Int32) (x2 : Int32) (x3 : Int32) (x4 : Int32) : Option Int32 := nx (x4 + (1 : Int32)) (fun v63 => k5 x1 x2 x3 v63)
def fX8_weightFor_t_5 (M : Mem) (k69 : Int32 → Option Int32) : Nat → Int32 → Int32 → Int32 → Int32 → Option Int32
  | 0, _, _, _, _ => none
  | n + 1, x1, x2, x3, x4 => (if (M.1 1 0) ≤ x4 then k69 x3 else (fX8_wayTo_t M x4 (x1 / (100 : Int32)) (irm x1 (100 : Int32))).bind (fun q25 => (fX8_wayTo_t M x4 (x2 / (100 : Int32)) (irm x2 (100 : Int32))).bind (fun q41 => (if q41 ≤ q25 then fX8_weightFor_t_63 M (fX8_weightFor_t_5 M k69 n) k69 x1 x2 x3 x4 else (if inb x4 15 = true then nx (x3 + (M.1 4 (ix x4))) (fun v62 => fX8_weightFor_t_63 M (fX8_weightFor_t_5 M k69 n) k69 x1 x2 v62 x4) else none)))))
def fX8_weightFor_t_69 (M : Mem) (x3 : Int32) : Option Int32 := some x3
def fX8_weightFor_t (M : Mem) (x1 : Int32) (x2 : Int32) : Option Int32 := fX8_weightFor_t_5 M (fX8_weightFor_t_69 M) FU x1 x2 (0 : Int32) (0 : Int32)
set_option maxHeartbeats 4000000 in
set_option maxRecDepth 100000 in
theorem wX8_weightFor_t_63 {r : Int32} {M : Mem} {k5 : Int32 → Int32 → Int32 → Int32 → Option Int32} {k69 : Int32 → Option Int32} (X : CX E p s m args c meth cX8_weightFor 7 (some .int) RX8) (hk5 : ∀ {x1 : Int32} {x2 : Int32} {x3 : Int32} {x4 : Int32} {H : Heap} {locs : List Loc} {ls : Array Slot}, k5 x1 x2 x3 x4 = some r → Rl E (sh_ b) (nn b) s.heap M H locs → lv_has ls 7 [(0, .ref (eB E + 1)), (1, .int x1), (2, .int x2), (3, .int x3), (4, .int x4)] → W p l e (rm 4 0 0) s m args below meth c H locs 0 0 (MQ below (qq E (some (.int r)) (sh_ b) (nn b) M) args s 0 0 (fr E)) (F0 m 5 ls [])) (hk69 : ∀ {x3 : Int32} {H : Heap} {locs : List Loc} {ls : Array Slot}, k69 x3 = some r → Rl E (sh_ b) (nn b) s.heap M H locs → lv_has ls 7 [(3, .int x3)] → W p l e (rm 4 0 0) s m args below meth c H locs 0 0 (MQ below (qq E (some (.int r)) (sh_ b) (nn b) M) args s 0 0 (fr E)) (F0 m 69 ls [])) : ∀ {x1 : Int32} {x2 : Int32} {x3 : Int32} {x4 : Int32} {H : Heap} {locs : List Loc} {ls : Array Slot}, fX8_weightFor_t_63 M k5 k69 x1 x2 x3 x4 = some r → Rl E (sh_ b) (nn b) s.heap M H locs → lv_has ls 7 [(0, .ref (eB E + 1)), (1, .int x1), (2, .int x2), (3, .int x3), (4, .int x4)] → W p l e (rm 4 0 0) s m args below meth c H locs 0 0 (MQ below (qq E (some (.int r)) (sh_ b) (nn b) M) args s 0 0 (fr E)) (F0 m 63 ls []) := by
  obtain ⟨hx, hb, hr, hml, hown, hts, hK, hN, hO, hlk, hbs⟩ := id X
  intro x1 x2 x3 x4 H locs ls hf hR hl
  unfold fX8_weightFor_t_63 at hf
  obtain ⟨v63, e63⟩ : ∃ y : Int32, y = (x4 + (1 : Int32)) := ⟨_, rfl⟩
  have hf := nx_at e63 hf
  refine lv_iinc (v := v63) (lv' := [(4, .int v63), (0, .ref (eB E + 1)), (1, .int x1), (2, .int x2), (3, .int x3)]) hx hb dX8_weightFor_63 hl (k := 4) rfl (by rw [e63]; rfl) (by decide) rfl (fun ls hl => ?_)
  refine lv_goto (tgt := 5) hx hb dX8_weightFor_66 (by decide) ?_
  exact hk5 hf hR (lv_sub hl [1, 2, 3, 4, 0] rfl)
set_option maxHeartbeats 4000000 in
set_option maxRecDepth 100000 in
theorem wX8_weightFor_t_5 {r : Int32} {M : Mem} {k69 : Int32 → Option Int32} (X : CX E p s m args c meth cX8_weightFor 7 (some .int) RX8) (hk69 : ∀ {x3 : Int32} {H : Heap} {locs : List Loc} {ls : Array Slot}, k69 x3 = some r → Rl E (sh_ b) (nn b) s.heap M H locs → lv_has ls 7 [(3, .int x3)] → W p l e (rm 4 0 0) s m args below meth c H locs 0 0 (MQ below (qq E (some (.int r)) (sh_ b) (nn b) M) args s 0 0 (fr E)) (F0 m 69 ls [])) : ∀ (n : Nat) {x1 : Int32} {x2 : Int32} {x3 : Int32} {x4 : Int32} {H : Heap} {locs : List Loc} {ls : Array Slot}, fX8_weightFor_t_5 M k69 n x1 x2 x3 x4 = some r → Rl E (sh_ b) (nn b) s.heap M H locs → lv_has ls 7 [(0, .ref (eB E + 1)), (1, .int x1), (2, .int x2), (3, .int x3), (4, .int x4)] → W p l e (rm 4 0 0) s m args below meth c H locs 0 0 (MQ below (qq E (some (.int r)) (sh_ b) (nn b) M) args s 0 0 (fr E)) (F0 m 5 ls []) := by
  obtain ⟨hx, hb, hr, hml, hown, hts, hK, hN, hO, hlk, hbs⟩ := id X
  intro n
  induction n with
  | zero =>
    intro x1 x2 x3 x4 H locs ls hf hR hl
    exact absurd (show none = some _ from hf) (fun h => by cases h)
  | succ n ih =>
    intro x1 x2 x3 x4 H locs ls hf hR hl
    rw [fX8_weightFor_t_5] at hf
    refine lv_iload hx hb dX8_weightFor_5 (lv_at hl 4 rfl) ?_
    refine lv_aload_n hx hb dX8_weightFor_7 rfl (lv_at hl 0 rfl) ?_
    refine x_get hx hb hown hts hK hR kX8 (z_1 b) (j := 0) (by decide) fl_X8_36 (v := .int (M.1 1 0)) rfl dX8_weightFor_8 ?_
    refine lv_icmp_ge (tgt := 69) hx hb dX8_weightFor_11 (by decide) (fun q11 => ?_) (fun q11 => ?_)
    · have hf := (br_if hf).1 q11
      exact hk69 hf hR (lv_sub hl [3] rfl)
    · have hf := (br_if hf).2 q11
      refine lv_aload_n hx hb dX8_weightFor_14 rfl (lv_at hl 0 rfl) ?_
      refine lv_iload hx hb dX8_weightFor_15 (lv_at hl 4 rfl) ?_
      refine lv_iload_n hx hb dX8_weightFor_17 rfl (lv_at hl 1 rfl) ?_
      refine lv_bipush (v := 100) hx hb dX8_weightFor_18 (by decide) ?_
      refine lv_idiv hx hb dX8_weightFor_20 (by decide) ?_
      refine lv_iload_n hx hb dX8_weightFor_21 rfl (lv_at hl 1 rfl) ?_
      refine lv_bipush (v := 100) hx hb dX8_weightFor_22 (by decide) ?_
      refine lv_irem hx hb dX8_weightFor_24 (by decide) ?_
      refine W.eq (g2 := F0 m 25 ls [.int (irm x1 (100 : Int32)), .int (x1 / (100 : Int32)), .int x4, .ref (eB E + 1)]) rfl ?_
      obtain ⟨q25, c25, hf⟩ := br_b hf
      refine x_callV (k := 1) (As := [.int x4, .int (x1 / (100 : Int32)), .int (irm x1 (100 : Int32))]) (rest := []) (st1 := [.int q25]) X hR (ctX8_wayTo_t c25) ml_X8_90 im_X8_wayTo se_X8_wayTo in_X8 co_X8_wayTo yo_X8_wayTo rfl kX8 (z_1 b) (rm_ok (by decide) (by decide)) rfl hl.1 rfl rfl (Nat.le_of_ble_eq_true rfl) dX8_weightFor_25 ⟨Nat.zero_le _, Nat.zero_le _⟩ (fun H locs hR => ?_)
      refine lv_istore (lv' := [(5, .int q25), (0, .ref (eB E + 1)), (1, .int x1), (2, .int x2), (3, .int x3), (4, .int x4)]) hx hb dX8_weightFor_28 hl (by decide) rfl (fun ls hl => ?_)
      refine lv_aload_n hx hb dX8_weightFor_30 rfl (lv_at hl 1 rfl) ?_
      refine lv_iload hx hb dX8_weightFor_31 (lv_at hl 5 rfl) ?_
      refine lv_iload_n hx hb dX8_weightFor_33 rfl (lv_at hl 3 rfl) ?_
      refine lv_bipush (v := 100) hx hb dX8_weightFor_34 (by decide) ?_
      refine lv_idiv hx hb dX8_weightFor_36 (by decide) ?_
      refine lv_iload_n hx hb dX8_weightFor_37 rfl (lv_at hl 3 rfl) ?_
      refine lv_bipush (v := 100) hx hb dX8_weightFor_38 (by decide) ?_
      refine lv_irem hx hb dX8_weightFor_40 (by decide) ?_
      refine W.eq (g2 := F0 m 41 ls [.int (irm x2 (100 : Int32)), .int (x2 / (100 : Int32)), .int x4, .ref (eB E + 1)]) rfl ?_
      obtain ⟨q41, c41, hf⟩ := br_b hf
      refine x_callV (k := 1) (As := [.int x4, .int (x2 / (100 : Int32)), .int (irm x2 (100 : Int32))]) (rest := []) (st1 := [.int q41]) X hR (ctX8_wayTo_t c41) ml_X8_90 im_X8_wayTo se_X8_wayTo in_X8 co_X8_wayTo yo_X8_wayTo rfl kX8 (z_1 b) (rm_ok (by decide) (by decide)) rfl hl.1 rfl rfl (Nat.le_of_ble_eq_true rfl) dX8_weightFor_41 ⟨Nat.zero_le _, Nat.zero_le _⟩ (fun H locs hR => ?_)
      refine lv_istore (lv' := [(6, .int q41), (5, .int q25), (0, .ref (eB E + 1)), (1, .int x1), (2, .int x2), (3, .int x3), (4, .int x4)]) hx hb dX8_weightFor_44 hl (by decide) rfl (fun ls hl => ?_)
      refine lv_iload hx hb dX8_weightFor_46 (lv_at hl 1 rfl) ?_
      refine lv_iload hx hb dX8_weightFor_48 (lv_at hl 0 rfl) ?_
      refine lv_icmp_ge (tgt := 63) hx hb dX8_weightFor_50 (by decide) (fun q50 => ?_) (fun q50 => ?_)
      · have hf := (br_if hf).1 q50
        exact wX8_weightFor_t_63 X (fun hf hR hl => ih hf hR hl) (fun hf hR hl => hk69 hf hR hl) hf hR (lv_sub hl [2, 3, 4, 5, 6] rfl)
      · have hf := (br_if hf).2 q50
        refine lv_iload_n hx hb dX8_weightFor_53 rfl (lv_at hl 5 rfl) ?_
        refine lv_aload_n hx hb dX8_weightFor_54 rfl (lv_at hl 2 rfl) ?_
        refine x_get hx hb hown hts hK hR kX8 (z_1 b) (j := 3) (by decide) fl_X8_18 (v := .ref (eB E + 4)) rfl dX8_weightFor_55 ?_
        refine lv_iload hx hb dX8_weightFor_58 (lv_at hl 6 rfl) ?_
        obtain ⟨g60, hf⟩ := br_g hf
        refine x_iald hx hb hK hR (z_4 b) g60 dX8_weightFor_60 ?_
        refine lv_iadd hx hb dX8_weightFor_61 ?_
        refine lv_topi (fun v62 e62 => ?_)
        have hf := nx_at e62 hf
        refine lv_istore_n (lv' := [(3, .int v62), (6, .int q41), (5, .int q25), (0, .ref (eB E + 1)), (1, .int x1), (2, .int x2), (4, .int x4)]) hx hb dX8_weightFor_62 rfl hl (by decide) rfl (fun ls hl => ?_)
        exact wX8_weightFor_t_63 X (fun hf hR hl => ih hf hR hl) (fun hf hR hl => hk69 hf hR hl) hf hR (lv_sub hl [3, 4, 5, 0, 6] rfl)
set_option maxHeartbeats 4000000 in
set_option maxRecDepth 100000 in
theorem wX8_weightFor_t_69 {r : Int32} {M : Mem} (X : CX E p s m args c meth cX8_weightFor 7 (some .int) RX8) : ∀ {x3 : Int32} {H : Heap} {locs : List Loc} {ls : Array Slot}, fX8_weightFor_t_69 M x3 = some r → Rl E (sh_ b) (nn b) s.heap M H locs → lv_has ls 7 [(3, .int x3)] → W p l e (rm 4 0 0) s m args below meth c H locs 0 0 (MQ below (qq E (some (.int r)) (sh_ b) (nn b) M) args s 0 0 (fr E)) (F0 m 69 ls []) := by
  obtain ⟨hx, hb, hr, hml, hown, hts, hK, hN, hO, hlk, hbs⟩ := id X
  intro x3 H locs ls hf hR hl
  unfold fX8_weightFor_t_69 at hf
  refine lv_iload_n hx hb dX8_weightFor_69 rfl (lv_at hl 0 rfl) ?_
  cases hf
  exact x_iret hx hb hr hlk hR dX8_weightFor_70
set_option maxHeartbeats 4000000 in
set_option maxRecDepth 100000 in
theorem wX8_weightFor_t_0 {r : Int32} {M : Mem} (X : CX E p s m args c meth cX8_weightFor 7 (some .int) RX8) : ∀ {x1 : Int32} {x2 : Int32} {H : Heap} {locs : List Loc} {ls : Array Slot}, fX8_weightFor_t M x1 x2 = some r → Rl E (sh_ b) (nn b) s.heap M H locs → lv_has ls 7 [(0, .ref (eB E + 1)), (1, .int x1), (2, .int x2)] → W p l e (rm 4 0 0) s m args below meth c H locs 0 0 (MQ below (qq E (some (.int r)) (sh_ b) (nn b) M) args s 0 0 (fr E)) (F0 m 0 ls []) := by
  obtain ⟨hx, hb, hr, hml, hown, hts, hK, hN, hO, hlk, hbs⟩ := id X
  intro x1 x2 H locs ls hf hR hl
  unfold fX8_weightFor_t at hf
  refine lv_iconst (v := 0) hx hb dX8_weightFor_0 (by decide) ?_
  refine lv_istore_n (lv' := [(3, .int (0 : Int32)), (0, .ref (eB E + 1)), (1, .int x1), (2, .int x2)]) hx hb dX8_weightFor_1 rfl hl (by decide) rfl (fun ls hl => ?_)
  refine lv_iconst (v := 0) hx hb dX8_weightFor_2 (by decide) ?_
  refine lv_istore (lv' := [(4, .int (0 : Int32)), (3, .int (0 : Int32)), (0, .ref (eB E + 1)), (1, .int x1), (2, .int x2)]) hx hb dX8_weightFor_3 hl (by decide) rfl (fun ls hl => ?_)
  exact wX8_weightFor_t_5 X (fun hf hR hl => wX8_weightFor_t_69 X hf hR hl) FU hf hR (lv_sub hl [2, 3, 4, 1, 0] rfl)
theorem ctX8_weightFor_t {l : Launch} {E : Ge} {b : Bool} {M : Mem} {x1 : Int32} {x2 : Int32} {r : Int32} (h : fX8_weightFor_t M x1 x2 = some r) : CT l E yX8_weightFor cX8_weightFor 7 (some .int) 4 0 0 [.ref (eB E + 1), .int x1, .int x2] (some (.int r)) (sh_ b) (nn b) M (sh_ b) (nn b) M := by
  refine met_of (by decide) (Nat.le_of_ble_eq_true rfl) ?_
  intro p e s m args below meth c X _ hR ls hl
  exact wX8_weightFor_t_0 X h hR hl
def fX8_isEnough_t_55 (M : Mem) (s0 : Int32) : Option Int32 := some (s0 &&& 1)
def fX8_isEnough_t_84 (M : Mem) (s0 : Int32) : Option Int32 := some (s0 &&& 1)
def fX8_isEnough_t_83 (M : Mem) : Option Int32 := fX8_isEnough_t_84 M (0 : Int32)
def fX8_isEnough_t_95 (M : Mem) (s0 : Int32) : Option Int32 := some (s0 &&& 1)
def fX8_isEnough_t (M : Mem) (x1 : Int32) (x2 : Int32) : Option Int32 := (if (M.1 1 11) = (1 : Int32) then (if (x1 * (M.1 1 13)) ≤ ((M.1 1 12) * (M.1 1 7)) then fX8_isEnough_t_55 M (0 : Int32) else fX8_isEnough_t_55 M (1 : Int32)) else (if (M.1 1 11) = (2 : Int32) then (if (x1 * (M.1 1 13)) < ((M.1 1 12) * (M.1 1 7)) then fX8_isEnough_t_83 M else (if x1 ≤ x2 then fX8_isEnough_t_83 M else fX8_isEnough_t_84 M (1 : Int32))) else (if x1 ≤ x2 then fX8_isEnough_t_95 M (0 : Int32) else fX8_isEnough_t_95 M (1 : Int32))))
set_option maxHeartbeats 4000000 in
set_option maxRecDepth 100000 in
theorem wX8_isEnough_t_55 {r : Int32} {M : Mem} (X : CX E p s m args c meth cX8_isEnough 3 (some .boolean) RX8) : ∀ {s0 : Int32} {H : Heap} {locs : List Loc} {ls : Array Slot}, fX8_isEnough_t_55 M s0 = some r → Rl E (sh_ b) (nn b) s.heap M H locs → lv_has ls 3 [] → W p l e (rm 1 0 0) s m args below meth c H locs 0 0 (MQ below (qq E (some (.int r)) (sh_ b) (nn b) M) args s 0 0 (fr E)) (F0 m 55 ls [.int s0]) := by
  obtain ⟨hx, hb, hr, hml, hown, hts, hK, hN, hO, hlk, hbs⟩ := id X
  intro s0 H locs ls hf hR hl
  unfold fX8_isEnough_t_55 at hf
  cases hf
  exact x_zret hx hb hr hlk hR rfl dX8_isEnough_55
set_option maxHeartbeats 4000000 in
set_option maxRecDepth 100000 in
theorem wX8_isEnough_t_84 {r : Int32} {M : Mem} (X : CX E p s m args c meth cX8_isEnough 3 (some .boolean) RX8) : ∀ {s0 : Int32} {H : Heap} {locs : List Loc} {ls : Array Slot}, fX8_isEnough_t_84 M s0 = some r → Rl E (sh_ b) (nn b) s.heap M H locs → lv_has ls 3 [] → W p l e (rm 1 0 0) s m args below meth c H locs 0 0 (MQ below (qq E (some (.int r)) (sh_ b) (nn b) M) args s 0 0 (fr E)) (F0 m 84 ls [.int s0]) := by
  obtain ⟨hx, hb, hr, hml, hown, hts, hK, hN, hO, hlk, hbs⟩ := id X
  intro s0 H locs ls hf hR hl
  unfold fX8_isEnough_t_84 at hf
  cases hf
  exact x_zret hx hb hr hlk hR rfl dX8_isEnough_84
set_option maxHeartbeats 4000000 in
set_option maxRecDepth 100000 in
theorem wX8_isEnough_t_83 {r : Int32} {M : Mem} (X : CX E p s m args c meth cX8_isEnough 3 (some .boolean) RX8) : ∀ {H : Heap} {locs : List Loc} {ls : Array Slot}, fX8_isEnough_t_83 M = some r → Rl E (sh_ b) (nn b) s.heap M H locs → lv_has ls 3 [] → W p l e (rm 1 0 0) s m args below meth c H locs 0 0 (MQ below (qq E (some (.int r)) (sh_ b) (nn b) M) args s 0 0 (fr E)) (F0 m 83 ls []) := by
  obtain ⟨hx, hb, hr, hml, hown, hts, hK, hN, hO, hlk, hbs⟩ := id X
  intro H locs ls hf hR hl
  unfold fX8_isEnough_t_83 at hf
  refine lv_iconst (v := 0) hx hb dX8_isEnough_83 (by decide) ?_
  exact wX8_isEnough_t_84 X hf hR hl
set_option maxHeartbeats 4000000 in
set_option maxRecDepth 100000 in
theorem wX8_isEnough_t_95 {r : Int32} {M : Mem} (X : CX E p s m args c meth cX8_isEnough 3 (some .boolean) RX8) : ∀ {s0 : Int32} {H : Heap} {locs : List Loc} {ls : Array Slot}, fX8_isEnough_t_95 M s0 = some r → Rl E (sh_ b) (nn b) s.heap M H locs → lv_has ls 3 [] → W p l e (rm 1 0 0) s m args below meth c H locs 0 0 (MQ below (qq E (some (.int r)) (sh_ b) (nn b) M) args s 0 0 (fr E)) (F0 m 95 ls [.int s0]) := by
  obtain ⟨hx, hb, hr, hml, hown, hts, hK, hN, hO, hlk, hbs⟩ := id X
  intro s0 H locs ls hf hR hl
  unfold fX8_isEnough_t_95 at hf
  cases hf
  exact x_zret hx hb hr hlk hR rfl dX8_isEnough_95
set_option maxHeartbeats 4000000 in
set_option maxRecDepth 100000 in
theorem wX8_isEnough_t_0 {r : Int32} {M : Mem} (X : CX E p s m args c meth cX8_isEnough 3 (some .boolean) RX8) : ∀ {x1 : Int32} {x2 : Int32} {H : Heap} {locs : List Loc} {ls : Array Slot}, fX8_isEnough_t M x1 x2 = some r → Rl E (sh_ b) (nn b) s.heap M H locs → lv_has ls 3 [(0, .ref (eB E + 1)), (1, .int x1), (2, .int x2)] → W p l e (rm 1 0 0) s m args below meth c H locs 0 0 (MQ below (qq E (some (.int r)) (sh_ b) (nn b) M) args s 0 0 (fr E)) (F0 m 0 ls []) := by
  obtain ⟨hx, hb, hr, hml, hown, hts, hK, hN, hO, hlk, hbs⟩ := id X
  intro x1 x2 H locs ls hf hR hl
  unfold fX8_isEnough_t at hf
  refine lv_aload_n hx hb dX8_isEnough_0 rfl (lv_at hl 0 rfl) ?_
  refine x_get hx hb hown hts hK hR kX8 (z_1 b) (j := 11) (by decide) fl_X8_46 (v := .int (M.1 1 11)) rfl dX8_isEnough_1 ?_
  by_cases q4_0 : (M.1 1 11) = (1 : Int32)
  · have hf := (br_if hf).1 q4_0
    refine lv_lookup (tgt := 32) (off := 28) hx hb dX8_isEnough_4 (by decide) (by rw [q4_0]; decide) (by decide) ?_
    refine lv_iload_n hx hb dX8_isEnough_32 rfl (lv_at hl 1 rfl) ?_
    refine lv_aload_n hx hb dX8_isEnough_33 rfl (lv_at hl 0 rfl) ?_
    refine x_get hx hb hown hts hK hR kX8 (z_1 b) (j := 13) (by decide) fl_X8_52 (v := .int (M.1 1 13)) rfl dX8_isEnough_34 ?_
    refine lv_imul hx hb dX8_isEnough_37 ?_
    refine lv_aload_n hx hb dX8_isEnough_38 rfl (lv_at hl 0 rfl) ?_
    refine x_get hx hb hown hts hK hR kX8 (z_1 b) (j := 12) (by decide) fl_X8_49 (v := .int (M.1 1 12)) rfl dX8_isEnough_39 ?_
    refine lv_aload_n hx hb dX8_isEnough_42 rfl (lv_at hl 0 rfl) ?_
    refine x_get hx hb hown hts hK hR kX8 (z_1 b) (j := 7) (by decide) fl_X8_40 (v := .int (M.1 1 7)) rfl dX8_isEnough_43 ?_
    refine lv_imul hx hb dX8_isEnough_46 ?_
    refine lv_icmp_le (tgt := 54) hx hb dX8_isEnough_47 (by decide) (fun q47 => ?_) (fun q47 => ?_)
    · have hf := (br_if hf).1 q47
      refine lv_iconst (v := 0) hx hb dX8_isEnough_54 (by decide) ?_
      exact wX8_isEnough_t_55 X hf hR (lv_sub hl [] rfl)
    · have hf := (br_if hf).2 q47
      refine lv_iconst (v := 1) hx hb dX8_isEnough_50 (by decide) ?_
      refine lv_goto (tgt := 55) hx hb dX8_isEnough_51 (by decide) ?_
      exact wX8_isEnough_t_55 X hf hR (lv_sub hl [] rfl)
  · have hf := (br_if hf).2 q4_0
    by_cases q4_1 : (M.1 1 11) = (2 : Int32)
    · have hf := (br_if hf).1 q4_1
      refine lv_lookup (tgt := 56) (off := 52) hx hb dX8_isEnough_4 (by decide) (by rw [q4_1]; decide) (by decide) ?_
      refine lv_iload_n hx hb dX8_isEnough_56 rfl (lv_at hl 1 rfl) ?_
      refine lv_aload_n hx hb dX8_isEnough_57 rfl (lv_at hl 0 rfl) ?_
      refine x_get hx hb hown hts hK hR kX8 (z_1 b) (j := 13) (by decide) fl_X8_52 (v := .int (M.1 1 13)) rfl dX8_isEnough_58 ?_
      refine lv_imul hx hb dX8_isEnough_61 ?_
      refine lv_aload_n hx hb dX8_isEnough_62 rfl (lv_at hl 0 rfl) ?_
      refine x_get hx hb hown hts hK hR kX8 (z_1 b) (j := 12) (by decide) fl_X8_49 (v := .int (M.1 1 12)) rfl dX8_isEnough_63 ?_
      refine lv_aload_n hx hb dX8_isEnough_66 rfl (lv_at hl 0 rfl) ?_
      refine x_get hx hb hown hts hK hR kX8 (z_1 b) (j := 7) (by decide) fl_X8_40 (v := .int (M.1 1 7)) rfl dX8_isEnough_67 ?_
      refine lv_imul hx hb dX8_isEnough_70 ?_
      refine lv_icmp_lt (tgt := 83) hx hb dX8_isEnough_71 (by decide) (fun q71 => ?_) (fun q71 => ?_)
      · have hf := (br_if hf).1 q71
        exact wX8_isEnough_t_83 X hf hR (lv_sub hl [] rfl)
      · have hf := (br_if hf).2 q71
        refine lv_iload_n hx hb dX8_isEnough_74 rfl (lv_at hl 1 rfl) ?_
        refine lv_iload_n hx hb dX8_isEnough_75 rfl (lv_at hl 2 rfl) ?_
        refine lv_icmp_le (tgt := 83) hx hb dX8_isEnough_76 (by decide) (fun q76 => ?_) (fun q76 => ?_)
        · have hf := (br_if hf).1 q76
          exact wX8_isEnough_t_83 X hf hR (lv_sub hl [] rfl)
        · have hf := (br_if hf).2 q76
          refine lv_iconst (v := 1) hx hb dX8_isEnough_79 (by decide) ?_
          refine lv_goto (tgt := 84) hx hb dX8_isEnough_80 (by decide) ?_
          exact wX8_isEnough_t_84 X hf hR (lv_sub hl [] rfl)
    · have hf := (br_if hf).2 q4_1
      refine lv_lookup (tgt := 85) (off := 81) hx hb dX8_isEnough_4 (by decide) (by show Op.lookupswitch.offset [(1, 28), (2, 52)] 81 (Int32.toInt (M.1 1 11)) = _; rw [lv_osw (a := 1) q4_0 (by decide), lv_osw (a := 2) q4_1 (by decide)]; rfl) (by decide) ?_
      refine lv_iload_n hx hb dX8_isEnough_85 rfl (lv_at hl 1 rfl) ?_
      refine lv_iload_n hx hb dX8_isEnough_86 rfl (lv_at hl 2 rfl) ?_
      refine lv_icmp_le (tgt := 94) hx hb dX8_isEnough_87 (by decide) (fun q87 => ?_) (fun q87 => ?_)
      · have hf := (br_if hf).1 q87
        refine lv_iconst (v := 0) hx hb dX8_isEnough_94 (by decide) ?_
        exact wX8_isEnough_t_95 X hf hR (lv_sub hl [] rfl)
      · have hf := (br_if hf).2 q87
        refine lv_iconst (v := 1) hx hb dX8_isEnough_90 (by decide) ?_
        refine lv_goto (tgt := 95) hx hb dX8_isEnough_91 (by decide) ?_
        exact wX8_isEnough_t_95 X hf hR (lv_sub hl [] rfl)
theorem ctX8_isEnough_t {l : Launch} {E : Ge} {b : Bool} {M : Mem} {x1 : Int32} {x2 : Int32} {r : Int32} (h : fX8_isEnough_t M x1 x2 = some r) : CT l E yX8_isEnough cX8_isEnough 3 (some .boolean) 1 0 0 [.ref (eB E + 1), .int x1, .int x2] (some (.int r)) (sh_ b) (nn b) M (sh_ b) (nn b) M := by
  refine met_of (by decide) (Nat.le_of_ble_eq_true rfl) ?_
  intro p e s m args below meth c X _ hR ls hl
  exact wX8_isEnough_t_0 X h hR hl
def fX8_isMoreThanHalf_t_15 (M : Mem) (s0 : Int32) : Option Int32 := some (s0 &&& 1)
def fX8_isMoreThanHalf_t (M : Mem) (x1 : Int32) : Option Int32 := (if ((2 : Int32) * x1) ≤ (M.1 1 7) then fX8_isMoreThanHalf_t_15 M (0 : Int32) else fX8_isMoreThanHalf_t_15 M (1 : Int32))
set_option maxHeartbeats 4000000 in
set_option maxRecDepth 100000 in
theorem wX8_isMoreThanHalf_t_15 {r : Int32} {M : Mem} (X : CX E p s m args c meth cX8_isMoreThanHalf 2 (some .boolean) RX8) : ∀ {s0 : Int32} {H : Heap} {locs : List Loc} {ls : Array Slot}, fX8_isMoreThanHalf_t_15 M s0 = some r → Rl E (sh_ b) (nn b) s.heap M H locs → lv_has ls 2 [] → W p l e (rm 1 0 0) s m args below meth c H locs 0 0 (MQ below (qq E (some (.int r)) (sh_ b) (nn b) M) args s 0 0 (fr E)) (F0 m 15 ls [.int s0]) := by
  obtain ⟨hx, hb, hr, hml, hown, hts, hK, hN, hO, hlk, hbs⟩ := id X
  intro s0 H locs ls hf hR hl
  unfold fX8_isMoreThanHalf_t_15 at hf
  cases hf
  exact x_zret hx hb hr hlk hR rfl dX8_isMoreThanHalf_15
set_option maxHeartbeats 4000000 in
set_option maxRecDepth 100000 in
theorem wX8_isMoreThanHalf_t_0 {r : Int32} {M : Mem} (X : CX E p s m args c meth cX8_isMoreThanHalf 2 (some .boolean) RX8) : ∀ {x1 : Int32} {H : Heap} {locs : List Loc} {ls : Array Slot}, fX8_isMoreThanHalf_t M x1 = some r → Rl E (sh_ b) (nn b) s.heap M H locs → lv_has ls 2 [(0, .ref (eB E + 1)), (1, .int x1)] → W p l e (rm 1 0 0) s m args below meth c H locs 0 0 (MQ below (qq E (some (.int r)) (sh_ b) (nn b) M) args s 0 0 (fr E)) (F0 m 0 ls []) := by
  obtain ⟨hx, hb, hr, hml, hown, hts, hK, hN, hO, hlk, hbs⟩ := id X
  intro x1 H locs ls hf hR hl
  unfold fX8_isMoreThanHalf_t at hf
  refine lv_iconst (v := 2) hx hb dX8_isMoreThanHalf_0 (by decide) ?_
  refine lv_iload_n hx hb dX8_isMoreThanHalf_1 rfl (lv_at hl 1 rfl) ?_
  refine lv_imul hx hb dX8_isMoreThanHalf_2 ?_
  refine lv_aload_n hx hb dX8_isMoreThanHalf_3 rfl (lv_at hl 0 rfl) ?_
  refine x_get hx hb hown hts hK hR kX8 (z_1 b) (j := 7) (by decide) fl_X8_40 (v := .int (M.1 1 7)) rfl dX8_isMoreThanHalf_4 ?_
  refine lv_icmp_le (tgt := 14) hx hb dX8_isMoreThanHalf_7 (by decide) (fun q7 => ?_) (fun q7 => ?_)
  · have hf := (br_if hf).1 q7
    refine lv_iconst (v := 0) hx hb dX8_isMoreThanHalf_14 (by decide) ?_
    exact wX8_isMoreThanHalf_t_15 X hf hR (lv_sub hl [] rfl)
  · have hf := (br_if hf).2 q7
    refine lv_iconst (v := 1) hx hb dX8_isMoreThanHalf_10 (by decide) ?_
    refine lv_goto (tgt := 15) hx hb dX8_isMoreThanHalf_11 (by decide) ?_
    exact wX8_isMoreThanHalf_t_15 X hf hR (lv_sub hl [] rfl)
theorem ctX8_isMoreThanHalf_t {l : Launch} {E : Ge} {b : Bool} {M : Mem} {x1 : Int32} {r : Int32} (h : fX8_isMoreThanHalf_t M x1 = some r) : CT l E yX8_isMoreThanHalf cX8_isMoreThanHalf 2 (some .boolean) 1 0 0 [.ref (eB E + 1), .int x1] (some (.int r)) (sh_ b) (nn b) M (sh_ b) (nn b) M := by
  refine met_of (by decide) (Nat.le_of_ble_eq_true rfl) ?_
  intro p e s m args below meth c X _ hR ls hl
  exact wX8_isMoreThanHalf_t_0 X h hR hl
def fX8_takeFrom_t_6 (k66 : Mem → Option Mem) : Nat → Int32 → Mem → Option Mem
  | 0, _, _ => none
  | n + 1, x2, M => (if (M.1 12 0) ≤ x2 then k66 M else (if (15 : Int32) ≤ x2 then k66 M else (if inb x2 15 = true then (if inb x2 15 = true then (if inb x2 15 = true then (if inb x2 15 = true then (if inb x2 15 = true then (if inb x2 15 = true then (fX8_addVoter_t (M.1 13 (ix x2)) (M.1 14 (ix x2)) (M.1 15 (ix x2)) (M.1 16 (ix x2)) (M.1 17 (ix x2)) (M.1 18 (ix x2)) M).bind (fun q57 => nx (x2 + (1 : Int32)) (fun v60 => fX8_takeFrom_t_6 k66 n v60 q57)) else none) else none) else none) else none) else none) else none)))
def fX8_takeFrom_t_68 (k104 : Mem → Option Mem) : Nat → Int32 → Mem → Option Mem
  | 0, _, _ => none
  | n + 1, x2, M => (if (M.1 12 8) ≤ x2 then k104 M else (if (20 : Int32) ≤ x2 then k104 M else (if inb x2 20 = true then (if inb x2 20 = true then (fX8_addPlace_t (M.1 19 (ix x2)) (M.1 20 (ix x2)) M).bind (fun q95 => nx (x2 + (1 : Int32)) (fun v98 => fX8_takeFrom_t_68 k104 n v98 q95)) else none) else none)))
def fX8_takeFrom_t_104 (M : Mem) : Option Mem := nx (sI M 1 11 (M.1 12 11)) (fun M109 => nx (sI M109 1 12 (M109.1 12 12)) (fun M117 => nx (sI M117 1 13 (M117.1 12 13)) (fun M125 => some M125)))
def fX8_takeFrom_t_66 (M : Mem) : Option Mem := fX8_takeFrom_t_68 fX8_takeFrom_t_104 FU (0 : Int32) M
def fX8_takeFrom_t (M : Mem) : Option Mem := (fX8_clear_t M).bind (fun q1 => fX8_takeFrom_t_6 fX8_takeFrom_t_66 FU (0 : Int32) q1)
set_option maxHeartbeats 4000000 in
set_option maxRecDepth 100000 in
theorem wX8_takeFrom_t_6 {M1 : Mem} {k66 : Mem → Option Mem} (X : CX E p s m args c meth cX8_takeFrom 3 none RX8) (hk66 : ∀ {M : Mem} {H : Heap} {locs : List Loc} {ls : Array Slot}, k66 M = some M1 → Rl E (sh_ b) (nn b) s.heap M H locs → lv_has ls 3 [(0, .ref (eB E + 1)), (1, .ref (eB E + 12))] → W p l e (rm 2 0 0) s m args below meth c H locs 0 0 (MQ below (qq E none (sh_ b) (nn b) M1) args s 0 0 (fr E)) (F0 m 66 ls [])) : ∀ (n : Nat) {x2 : Int32} {M : Mem} {H : Heap} {locs : List Loc} {ls : Array Slot}, fX8_takeFrom_t_6 k66 n x2 M = some M1 → Rl E (sh_ b) (nn b) s.heap M H locs → lv_has ls 3 [(0, .ref (eB E + 1)), (1, .ref (eB E + 12)), (2, .int x2)] → W p l e (rm 2 0 0) s m args below meth c H locs 0 0 (MQ below (qq E none (sh_ b) (nn b) M1) args s 0 0 (fr E)) (F0 m 6 ls []) := by
  obtain ⟨hx, hb, hr, hml, hown, hts, hK, hN, hO, hlk, hbs⟩ := id X
  intro n
  induction n with
  | zero =>
    intro x2 M H locs ls hf hR hl
    exact absurd (show none = some _ from hf) (fun h => by cases h)
  | succ n ih =>
    intro x2 M H locs ls hf hR hl
    rw [fX8_takeFrom_t_6] at hf
    refine lv_iload_n hx hb dX8_takeFrom_6 rfl (lv_at hl 2 rfl) ?_
    refine lv_aload_n hx hb dX8_takeFrom_7 rfl (lv_at hl 1 rfl) ?_
    refine x_get hx hb hown hts hK hR kX8 (z_12 b) (j := 0) (by decide) fl_X8_36 (v := .int (M.1 12 0)) rfl dX8_takeFrom_8 ?_
    refine lv_icmp_ge (tgt := 66) hx hb dX8_takeFrom_11 (by decide) (fun q11 => ?_) (fun q11 => ?_)
    · have hf := (br_if hf).1 q11
      exact hk66 hf hR (lv_sub hl [0, 1] rfl)
    · have hf := (br_if hf).2 q11
      refine lv_iload_n hx hb dX8_takeFrom_14 rfl (lv_at hl 2 rfl) ?_
      refine lv_bipush (v := 15) hx hb dX8_takeFrom_15 (by decide) ?_
      refine lv_icmp_ge (tgt := 66) hx hb dX8_takeFrom_17 (by decide) (fun q17 => ?_) (fun q17 => ?_)
      · have hf := (br_if hf).1 q17
        exact hk66 hf hR (lv_sub hl [0, 1] rfl)
      · have hf := (br_if hf).2 q17
        refine lv_aload_n hx hb dX8_takeFrom_20 rfl (lv_at hl 0 rfl) ?_
        refine lv_aload_n hx hb dX8_takeFrom_21 rfl (lv_at hl 1 rfl) ?_
        refine x_get hx hb hown hts hK hR kX8 (z_12 b) (j := 1) (by decide) fl_X8_9 (v := .ref (eB E + 13)) rfl dX8_takeFrom_22 ?_
        refine lv_iload_n hx hb dX8_takeFrom_25 rfl (lv_at hl 2 rfl) ?_
        obtain ⟨g26, hf⟩ := br_g hf
        refine x_iald hx hb hK hR (z_13 b) g26 dX8_takeFrom_26 ?_
        refine lv_aload_n hx hb dX8_takeFrom_27 rfl (lv_at hl 1 rfl) ?_
        refine x_get hx hb hown hts hK hR kX8 (z_12 b) (j := 2) (by decide) fl_X8_15 (v := .ref (eB E + 14)) rfl dX8_takeFrom_28 ?_
        refine lv_iload_n hx hb dX8_takeFrom_31 rfl (lv_at hl 2 rfl) ?_
        obtain ⟨g32, hf⟩ := br_g hf
        refine x_iald hx hb hK hR (z_14 b) g32 dX8_takeFrom_32 ?_
        refine lv_aload_n hx hb dX8_takeFrom_33 rfl (lv_at hl 1 rfl) ?_
        refine x_get hx hb hown hts hK hR kX8 (z_12 b) (j := 3) (by decide) fl_X8_18 (v := .ref (eB E + 15)) rfl dX8_takeFrom_34 ?_
        refine lv_iload_n hx hb dX8_takeFrom_37 rfl (lv_at hl 2 rfl) ?_
        obtain ⟨g38, hf⟩ := br_g hf
        refine x_iald hx hb hK hR (z_15 b) g38 dX8_takeFrom_38 ?_
        refine lv_aload_n hx hb dX8_takeFrom_39 rfl (lv_at hl 1 rfl) ?_
        refine x_get hx hb hown hts hK hR kX8 (z_12 b) (j := 4) (by decide) fl_X8_21 (v := .ref (eB E + 16)) rfl dX8_takeFrom_40 ?_
        refine lv_iload_n hx hb dX8_takeFrom_43 rfl (lv_at hl 2 rfl) ?_
        obtain ⟨g44, hf⟩ := br_g hf
        refine x_iald hx hb hK hR (z_16 b) g44 dX8_takeFrom_44 ?_
        refine lv_aload_n hx hb dX8_takeFrom_45 rfl (lv_at hl 1 rfl) ?_
        refine x_get hx hb hown hts hK hR kX8 (z_12 b) (j := 5) (by decide) fl_X8_24 (v := .ref (eB E + 17)) rfl dX8_takeFrom_46 ?_
        refine lv_iload_n hx hb dX8_takeFrom_49 rfl (lv_at hl 2 rfl) ?_
        obtain ⟨g50, hf⟩ := br_g hf
        refine x_iald hx hb hK hR (z_17 b) g50 dX8_takeFrom_50 ?_
        refine lv_aload_n hx hb dX8_takeFrom_51 rfl (lv_at hl 1 rfl) ?_
        refine x_get hx hb hown hts hK hR kX8 (z_12 b) (j := 6) (by decide) fl_X8_27 (v := .ref (eB E + 18)) rfl dX8_takeFrom_52 ?_
        refine lv_iload_n hx hb dX8_takeFrom_55 rfl (lv_at hl 2 rfl) ?_
        obtain ⟨g56, hf⟩ := br_g hf
        refine x_iald hx hb hK hR (z_18 b) g56 dX8_takeFrom_56 ?_
        obtain ⟨q57, c57, hf⟩ := br_b hf
        refine x_callV (k := 1) (As := [.int (M.1 13 (ix x2)), .int (M.1 14 (ix x2)), .int (M.1 15 (ix x2)), .int (M.1 16 (ix x2)), .int (M.1 17 (ix x2)), .int (M.1 18 (ix x2))]) (rest := []) (st1 := []) X hR (ctX8_addVoter_t c57) ml_X8_68 im_X8_addVoter se_X8_addVoter in_X8 co_X8_addVoter yo_X8_addVoter rfl kX8 (z_1 b) (rm_ok (by decide) (by decide)) rfl hl.1 rfl rfl (Nat.le_of_ble_eq_true rfl) dX8_takeFrom_57 ⟨Nat.zero_le _, Nat.zero_le _⟩ (fun H locs hR => ?_)
        obtain ⟨v60, e60⟩ : ∃ y : Int32, y = (x2 + (1 : Int32)) := ⟨_, rfl⟩
        have hf := nx_at e60 hf
        refine lv_iinc (v := v60) (lv' := [(2, .int v60), (0, .ref (eB E + 1)), (1, .ref (eB E + 12))]) hx hb dX8_takeFrom_60 hl (k := 2) rfl (by rw [e60]; rfl) (by decide) rfl (fun ls hl => ?_)
        refine lv_goto (tgt := 6) hx hb dX8_takeFrom_63 (by decide) ?_
        exact ih hf hR (lv_sub hl [1, 2, 0] rfl)
set_option maxHeartbeats 4000000 in
set_option maxRecDepth 100000 in
theorem wX8_takeFrom_t_68 {M1 : Mem} {k104 : Mem → Option Mem} (X : CX E p s m args c meth cX8_takeFrom 3 none RX8) (hk104 : ∀ {M : Mem} {H : Heap} {locs : List Loc} {ls : Array Slot}, k104 M = some M1 → Rl E (sh_ b) (nn b) s.heap M H locs → lv_has ls 3 [(0, .ref (eB E + 1)), (1, .ref (eB E + 12))] → W p l e (rm 2 0 0) s m args below meth c H locs 0 0 (MQ below (qq E none (sh_ b) (nn b) M1) args s 0 0 (fr E)) (F0 m 104 ls [])) : ∀ (n : Nat) {x2 : Int32} {M : Mem} {H : Heap} {locs : List Loc} {ls : Array Slot}, fX8_takeFrom_t_68 k104 n x2 M = some M1 → Rl E (sh_ b) (nn b) s.heap M H locs → lv_has ls 3 [(0, .ref (eB E + 1)), (1, .ref (eB E + 12)), (2, .int x2)] → W p l e (rm 2 0 0) s m args below meth c H locs 0 0 (MQ below (qq E none (sh_ b) (nn b) M1) args s 0 0 (fr E)) (F0 m 68 ls []) := by
  obtain ⟨hx, hb, hr, hml, hown, hts, hK, hN, hO, hlk, hbs⟩ := id X
  intro n
  induction n with
  | zero =>
    intro x2 M H locs ls hf hR hl
    exact absurd (show none = some _ from hf) (fun h => by cases h)
  | succ n ih =>
    intro x2 M H locs ls hf hR hl
    rw [fX8_takeFrom_t_68] at hf
    refine lv_iload_n hx hb dX8_takeFrom_68 rfl (lv_at hl 2 rfl) ?_
    refine lv_aload_n hx hb dX8_takeFrom_69 rfl (lv_at hl 1 rfl) ?_
    refine x_get hx hb hown hts hK hR kX8 (z_12 b) (j := 8) (by decide) fl_X8_43 (v := .int (M.1 12 8)) rfl dX8_takeFrom_70 ?_
    refine lv_icmp_ge (tgt := 104) hx hb dX8_takeFrom_73 (by decide) (fun q73 => ?_) (fun q73 => ?_)
    · have hf := (br_if hf).1 q73
      exact hk104 hf hR (lv_sub hl [0, 1] rfl)
    · have hf := (br_if hf).2 q73
      refine lv_iload_n hx hb dX8_takeFrom_76 rfl (lv_at hl 2 rfl) ?_
      refine lv_bipush (v := 20) hx hb dX8_takeFrom_77 (by decide) ?_
      refine lv_icmp_ge (tgt := 104) hx hb dX8_takeFrom_79 (by decide) (fun q79 => ?_) (fun q79 => ?_)
      · have hf := (br_if hf).1 q79
        exact hk104 hf hR (lv_sub hl [0, 1] rfl)
      · have hf := (br_if hf).2 q79
        refine lv_aload_n hx hb dX8_takeFrom_82 rfl (lv_at hl 0 rfl) ?_
        refine lv_aload_n hx hb dX8_takeFrom_83 rfl (lv_at hl 1 rfl) ?_
        refine x_get hx hb hown hts hK hR kX8 (z_12 b) (j := 9) (by decide) fl_X8_30 (v := .ref (eB E + 19)) rfl dX8_takeFrom_84 ?_
        refine lv_iload_n hx hb dX8_takeFrom_87 rfl (lv_at hl 2 rfl) ?_
        obtain ⟨g88, hf⟩ := br_g hf
        refine x_iald hx hb hK hR (z_19 b) g88 dX8_takeFrom_88 ?_
        refine lv_aload_n hx hb dX8_takeFrom_89 rfl (lv_at hl 1 rfl) ?_
        refine x_get hx hb hown hts hK hR kX8 (z_12 b) (j := 10) (by decide) fl_X8_33 (v := .ref (eB E + 20)) rfl dX8_takeFrom_90 ?_
        refine lv_iload_n hx hb dX8_takeFrom_93 rfl (lv_at hl 2 rfl) ?_
        obtain ⟨g94, hf⟩ := br_g hf
        refine x_iald hx hb hK hR (z_20 b) g94 dX8_takeFrom_94 ?_
        obtain ⟨q95, c95, hf⟩ := br_b hf
        refine x_callV (k := 1) (As := [.int (M.1 19 (ix x2)), .int (M.1 20 (ix x2))]) (rest := []) (st1 := []) X hR (ctX8_addPlace_t c95) ml_X8_72 im_X8_addPlace se_X8_addPlace in_X8 co_X8_addPlace yo_X8_addPlace rfl kX8 (z_1 b) (rm_ok (by decide) (by decide)) rfl hl.1 rfl rfl (Nat.le_of_ble_eq_true rfl) dX8_takeFrom_95 ⟨Nat.zero_le _, Nat.zero_le _⟩ (fun H locs hR => ?_)
        obtain ⟨v98, e98⟩ : ∃ y : Int32, y = (x2 + (1 : Int32)) := ⟨_, rfl⟩
        have hf := nx_at e98 hf
        refine lv_iinc (v := v98) (lv' := [(2, .int v98), (0, .ref (eB E + 1)), (1, .ref (eB E + 12))]) hx hb dX8_takeFrom_98 hl (k := 2) rfl (by rw [e98]; rfl) (by decide) rfl (fun ls hl => ?_)
        refine lv_goto (tgt := 68) hx hb dX8_takeFrom_101 (by decide) ?_
        exact ih hf hR (lv_sub hl [1, 2, 0] rfl)
set_option maxHeartbeats 4000000 in
set_option maxRecDepth 100000 in
theorem wX8_takeFrom_t_104 {M1 : Mem} (X : CX E p s m args c meth cX8_takeFrom 3 none RX8) : ∀ {M : Mem} {H : Heap} {locs : List Loc} {ls : Array Slot}, fX8_takeFrom_t_104 M = some M1 → Rl E (sh_ b) (nn b) s.heap M H locs → lv_has ls 3 [(0, .ref (eB E + 1)), (1, .ref (eB E + 12))] → W p l e (rm 2 0 0) s m args below meth c H locs 0 0 (MQ below (qq E none (sh_ b) (nn b) M1) args s 0 0 (fr E)) (F0 m 104 ls []) := by
  obtain ⟨hx, hb, hr, hml, hown, hts, hK, hN, hO, hlk, hbs⟩ := id X
  intro M H locs ls hf hR hl
  unfold fX8_takeFrom_t_104 at hf
  refine lv_aload_n hx hb dX8_takeFrom_104 rfl (lv_at hl 0 rfl) ?_
  refine lv_aload_n hx hb dX8_takeFrom_105 rfl (lv_at hl 1 rfl) ?_
  refine x_get hx hb hown hts hK hR kX8 (z_12 b) (j := 11) (by decide) fl_X8_46 (v := .int (M.1 12 11)) rfl dX8_takeFrom_106 ?_
  refine x_puti hx hb hown hts hK hR kX8 (z_1 b) (j := 11) (by decide) fl_X8_46 rfl rfl rfl rfl dX8_takeFrom_109 (fun H locs hR => ?_)
  obtain ⟨M109, e109⟩ : ∃ y : Mem, y = (sI M 1 11 (M.1 12 11)) := ⟨_, rfl⟩
  have hf := nx_at e109 hf
  have hR : Rl E (sh_ b) (nn b) s.heap M109 H locs := by rw [e109]; exact hR
  refine lv_aload_n hx hb dX8_takeFrom_112 rfl (lv_at hl 0 rfl) ?_
  refine lv_aload_n hx hb dX8_takeFrom_113 rfl (lv_at hl 1 rfl) ?_
  refine x_get hx hb hown hts hK hR kX8 (z_12 b) (j := 12) (by decide) fl_X8_49 (v := .int (M109.1 12 12)) rfl dX8_takeFrom_114 ?_
  refine x_puti hx hb hown hts hK hR kX8 (z_1 b) (j := 12) (by decide) fl_X8_49 rfl rfl rfl rfl dX8_takeFrom_117 (fun H locs hR => ?_)
  obtain ⟨M117, e117⟩ : ∃ y : Mem, y = (sI M109 1 12 (M109.1 12 12)) := ⟨_, rfl⟩
  have hf := nx_at e117 hf
  have hR : Rl E (sh_ b) (nn b) s.heap M117 H locs := by rw [e117]; exact hR
  refine lv_aload_n hx hb dX8_takeFrom_120 rfl (lv_at hl 0 rfl) ?_
  refine lv_aload_n hx hb dX8_takeFrom_121 rfl (lv_at hl 1 rfl) ?_
  refine x_get hx hb hown hts hK hR kX8 (z_12 b) (j := 13) (by decide) fl_X8_52 (v := .int (M117.1 12 13)) rfl dX8_takeFrom_122 ?_
  refine x_puti hx hb hown hts hK hR kX8 (z_1 b) (j := 13) (by decide) fl_X8_52 rfl rfl rfl rfl dX8_takeFrom_125 (fun H locs hR => ?_)
  obtain ⟨M125, e125⟩ : ∃ y : Mem, y = (sI M117 1 13 (M117.1 12 13)) := ⟨_, rfl⟩
  have hf := nx_at e125 hf
  have hR : Rl E (sh_ b) (nn b) s.heap M125 H locs := by rw [e125]; exact hR
  cases hf
  exact x_vret hx hb hr hlk hR dX8_takeFrom_128
set_option maxHeartbeats 4000000 in
set_option maxRecDepth 100000 in
theorem wX8_takeFrom_t_66 {M1 : Mem} (X : CX E p s m args c meth cX8_takeFrom 3 none RX8) : ∀ {M : Mem} {H : Heap} {locs : List Loc} {ls : Array Slot}, fX8_takeFrom_t_66 M = some M1 → Rl E (sh_ b) (nn b) s.heap M H locs → lv_has ls 3 [(0, .ref (eB E + 1)), (1, .ref (eB E + 12))] → W p l e (rm 2 0 0) s m args below meth c H locs 0 0 (MQ below (qq E none (sh_ b) (nn b) M1) args s 0 0 (fr E)) (F0 m 66 ls []) := by
  obtain ⟨hx, hb, hr, hml, hown, hts, hK, hN, hO, hlk, hbs⟩ := id X
  intro M H locs ls hf hR hl
  unfold fX8_takeFrom_t_66 at hf
  refine lv_iconst (v := 0) hx hb dX8_takeFrom_66 (by decide) ?_
  refine lv_istore_n (lv' := [(2, .int (0 : Int32)), (0, .ref (eB E + 1)), (1, .ref (eB E + 12))]) hx hb dX8_takeFrom_67 rfl hl (by decide) rfl (fun ls hl => ?_)
  exact wX8_takeFrom_t_68 X (fun hf hR hl => wX8_takeFrom_t_104 X hf hR hl) FU hf hR (lv_sub hl [1, 2, 0] rfl)
set_option maxHeartbeats 4000000 in
set_option maxRecDepth 100000 in
theorem wX8_takeFrom_t_0 {M1 : Mem} (X : CX E p s m args c meth cX8_takeFrom 3 none RX8) : ∀ {M : Mem} {H : Heap} {locs : List Loc} {ls : Array Slot}, fX8_takeFrom_t M = some M1 → Rl E (sh_ b) (nn b) s.heap M H locs → lv_has ls 3 [(0, .ref (eB E + 1)), (1, .ref (eB E + 12))] → W p l e (rm 2 0 0) s m args below meth c H locs 0 0 (MQ below (qq E none (sh_ b) (nn b) M1) args s 0 0 (fr E)) (F0 m 0 ls []) := by
  obtain ⟨hx, hb, hr, hml, hown, hts, hK, hN, hO, hlk, hbs⟩ := id X
  intro M H locs ls hf hR hl
  unfold fX8_takeFrom_t at hf
  refine lv_aload_n hx hb dX8_takeFrom_0 rfl (lv_at hl 0 rfl) ?_
  obtain ⟨q1, c1, hf⟩ := br_b hf
  refine x_callV (k := 1) (As := []) (rest := []) (st1 := []) X hR (ctX8_clear_t c1) ml_X8_65 im_X8_clear se_X8_clear in_X8 co_X8_clear yo_X8_clear rfl kX8 (z_1 b) (rm_ok (by decide) (by decide)) rfl hl.1 rfl rfl (Nat.le_of_ble_eq_true rfl) dX8_takeFrom_1 ⟨Nat.zero_le _, Nat.zero_le _⟩ (fun H locs hR => ?_)
  refine lv_iconst (v := 0) hx hb dX8_takeFrom_4 (by decide) ?_
  refine lv_istore_n (lv' := [(2, .int (0 : Int32)), (0, .ref (eB E + 1)), (1, .ref (eB E + 12))]) hx hb dX8_takeFrom_5 rfl hl (by decide) rfl (fun ls hl => ?_)
  exact wX8_takeFrom_t_6 X (fun hf hR hl => wX8_takeFrom_t_66 X hf hR hl) FU hf hR (lv_sub hl [1, 2, 0] rfl)
theorem ctX8_takeFrom_t {l : Launch} {E : Ge} {b : Bool} {M : Mem} {M1 : Mem} (h : fX8_takeFrom_t M = some M1) : CT l E yX8_takeFrom cX8_takeFrom 3 none 2 0 0 [.ref (eB E + 1), .ref (eB E + 12)] none (sh_ b) (nn b) M (sh_ b) (nn b) M1 := by
  refine met_of (by decide) (Nat.le_of_ble_eq_true rfl) ?_
  intro p e s m args below meth c X _ hR ls hl
  exact wX8_takeFrom_t_0 X h hR hl
def fX8_clear_d (M : Mem) : Option Mem := nx (sI M 12 0 (0 : Int32)) (fun M2 => nx (sI M2 12 7 (0 : Int32)) (fun M7 => nx (sI M7 12 8 (0 : Int32)) (fun M12 => nx (sI M12 12 11 (0 : Int32)) (fun M17 => nx (sI M17 12 12 (1 : Int32)) (fun M22 => nx (sI M22 12 13 (1 : Int32)) (fun M27 => some M27))))))
set_option maxHeartbeats 4000000 in
set_option maxRecDepth 100000 in
theorem wX8_clear_d_0 {M1 : Mem} (X : CX E p s m args c meth cX8_clear 1 none RX8) : ∀ {M : Mem} {H : Heap} {locs : List Loc} {ls : Array Slot}, fX8_clear_d M = some M1 → Rl E (sh_ b) (nn b) s.heap M H locs → lv_has ls 1 [(0, .ref (eB E + 12))] → W p l e (rm 1 0 0) s m args below meth c H locs 0 0 (MQ below (qq E none (sh_ b) (nn b) M1) args s 0 0 (fr E)) (F0 m 0 ls []) := by
  obtain ⟨hx, hb, hr, hml, hown, hts, hK, hN, hO, hlk, hbs⟩ := id X
  intro M H locs ls hf hR hl
  unfold fX8_clear_d at hf
  refine lv_aload_n hx hb dX8_clear_0 rfl (lv_at hl 0 rfl) ?_
  refine lv_iconst (v := 0) hx hb dX8_clear_1 (by decide) ?_
  refine x_puti hx hb hown hts hK hR kX8 (z_12 b) (j := 0) (by decide) fl_X8_36 rfl rfl rfl rfl dX8_clear_2 (fun H locs hR => ?_)
  obtain ⟨M2, e2⟩ : ∃ y : Mem, y = (sI M 12 0 (0 : Int32)) := ⟨_, rfl⟩
  have hf := nx_at e2 hf
  have hR : Rl E (sh_ b) (nn b) s.heap M2 H locs := by rw [e2]; exact hR
  refine lv_aload_n hx hb dX8_clear_5 rfl (lv_at hl 0 rfl) ?_
  refine lv_iconst (v := 0) hx hb dX8_clear_6 (by decide) ?_
  refine x_puti hx hb hown hts hK hR kX8 (z_12 b) (j := 7) (by decide) fl_X8_40 rfl rfl rfl rfl dX8_clear_7 (fun H locs hR => ?_)
  obtain ⟨M7, e7⟩ : ∃ y : Mem, y = (sI M2 12 7 (0 : Int32)) := ⟨_, rfl⟩
  have hf := nx_at e7 hf
  have hR : Rl E (sh_ b) (nn b) s.heap M7 H locs := by rw [e7]; exact hR
  refine lv_aload_n hx hb dX8_clear_10 rfl (lv_at hl 0 rfl) ?_
  refine lv_iconst (v := 0) hx hb dX8_clear_11 (by decide) ?_
  refine x_puti hx hb hown hts hK hR kX8 (z_12 b) (j := 8) (by decide) fl_X8_43 rfl rfl rfl rfl dX8_clear_12 (fun H locs hR => ?_)
  obtain ⟨M12, e12⟩ : ∃ y : Mem, y = (sI M7 12 8 (0 : Int32)) := ⟨_, rfl⟩
  have hf := nx_at e12 hf
  have hR : Rl E (sh_ b) (nn b) s.heap M12 H locs := by rw [e12]; exact hR
  refine lv_aload_n hx hb dX8_clear_15 rfl (lv_at hl 0 rfl) ?_
  refine lv_iconst (v := 0) hx hb dX8_clear_16 (by decide) ?_
  refine x_puti hx hb hown hts hK hR kX8 (z_12 b) (j := 11) (by decide) fl_X8_46 rfl rfl rfl rfl dX8_clear_17 (fun H locs hR => ?_)
  obtain ⟨M17, e17⟩ : ∃ y : Mem, y = (sI M12 12 11 (0 : Int32)) := ⟨_, rfl⟩
  have hf := nx_at e17 hf
  have hR : Rl E (sh_ b) (nn b) s.heap M17 H locs := by rw [e17]; exact hR
  refine lv_aload_n hx hb dX8_clear_20 rfl (lv_at hl 0 rfl) ?_
  refine lv_iconst (v := 1) hx hb dX8_clear_21 (by decide) ?_
  refine x_puti hx hb hown hts hK hR kX8 (z_12 b) (j := 12) (by decide) fl_X8_49 rfl rfl rfl rfl dX8_clear_22 (fun H locs hR => ?_)
  obtain ⟨M22, e22⟩ : ∃ y : Mem, y = (sI M17 12 12 (1 : Int32)) := ⟨_, rfl⟩
  have hf := nx_at e22 hf
  have hR : Rl E (sh_ b) (nn b) s.heap M22 H locs := by rw [e22]; exact hR
  refine lv_aload_n hx hb dX8_clear_25 rfl (lv_at hl 0 rfl) ?_
  refine lv_iconst (v := 1) hx hb dX8_clear_26 (by decide) ?_
  refine x_puti hx hb hown hts hK hR kX8 (z_12 b) (j := 13) (by decide) fl_X8_52 rfl rfl rfl rfl dX8_clear_27 (fun H locs hR => ?_)
  obtain ⟨M27, e27⟩ : ∃ y : Mem, y = (sI M22 12 13 (1 : Int32)) := ⟨_, rfl⟩
  have hf := nx_at e27 hf
  have hR : Rl E (sh_ b) (nn b) s.heap M27 H locs := by rw [e27]; exact hR
  cases hf
  exact x_vret hx hb hr hlk hR dX8_clear_30
theorem ctX8_clear_d {l : Launch} {E : Ge} {b : Bool} {M : Mem} {M1 : Mem} (h : fX8_clear_d M = some M1) : CT l E yX8_clear cX8_clear 1 none 1 0 0 [.ref (eB E + 12)] none (sh_ b) (nn b) M (sh_ b) (nn b) M1 := by
  refine met_of (by decide) (Nat.le_of_ble_eq_true rfl) ?_
  intro p e s m args below meth c X _ hR ls hl
  exact wX8_clear_d_0 X h hR hl
def fX8_addPlace_d (x1 : Int32) (x2 : Int32) (M : Mem) : Option Mem := (if (M.1 12 8) < (20 : Int32) then (if inb (M.1 12 8) 20 = true then nx (sI M 19 (ix (M.1 12 8)) x1) (fun M19 => (if inb (M19.1 12 8) 20 = true then nx (sI M19 20 (ix (M19.1 12 8)) x2) (fun M29 => nx (sI M29 12 8 ((M29.1 12 8) + (1 : Int32))) (fun M37 => nx (sI M37 12 15 ((M37.1 12 15) + (1 : Int32))) (fun M47 => some M47))) else none)) else none) else some M)
set_option maxHeartbeats 4000000 in
set_option maxRecDepth 100000 in
theorem wX8_addPlace_d_0 {M1 : Mem} (X : CX E p s m args c meth cX8_addPlace 3 none RX8) : ∀ {x1 : Int32} {x2 : Int32} {M : Mem} {H : Heap} {locs : List Loc} {ls : Array Slot}, fX8_addPlace_d x1 x2 M = some M1 → Rl E (sh_ b) (nn b) s.heap M H locs → lv_has ls 3 [(0, .ref (eB E + 12)), (1, .int x1), (2, .int x2)] → W p l e (rm 1 0 0) s m args below meth c H locs 0 0 (MQ below (qq E none (sh_ b) (nn b) M1) args s 0 0 (fr E)) (F0 m 0 ls []) := by
  obtain ⟨hx, hb, hr, hml, hown, hts, hK, hN, hO, hlk, hbs⟩ := id X
  intro x1 x2 M H locs ls hf hR hl
  unfold fX8_addPlace_d at hf
  refine lv_aload_n hx hb dX8_addPlace_0 rfl (lv_at hl 0 rfl) ?_
  refine x_get hx hb hown hts hK hR kX8 (z_12 b) (j := 8) (by decide) fl_X8_43 (v := .int (M.1 12 8)) rfl dX8_addPlace_1 ?_
  refine lv_bipush (v := 20) hx hb dX8_addPlace_4 (by decide) ?_
  refine lv_icmp_lt (tgt := 10) hx hb dX8_addPlace_6 (by decide) (fun q6 => ?_) (fun q6 => ?_)
  · have hf := (br_if hf).1 q6
    refine lv_aload_n hx hb dX8_addPlace_10 rfl (lv_at hl 0 rfl) ?_
    refine x_get hx hb hown hts hK hR kX8 (z_12 b) (j := 9) (by decide) fl_X8_30 (v := .ref (eB E + 19)) rfl dX8_addPlace_11 ?_
    refine lv_aload_n hx hb dX8_addPlace_14 rfl (lv_at hl 0 rfl) ?_
    refine x_get hx hb hown hts hK hR kX8 (z_12 b) (j := 8) (by decide) fl_X8_43 (v := .int (M.1 12 8)) rfl dX8_addPlace_15 ?_
    refine lv_iload_n hx hb dX8_addPlace_18 rfl (lv_at hl 1 rfl) ?_
    obtain ⟨g19, hf⟩ := br_g hf
    refine x_iast hx hb hK hR (z_19 b) g19 dX8_addPlace_19 (fun H locs hR => ?_)
    obtain ⟨M19, e19⟩ : ∃ y : Mem, y = (sI M 19 (ix (M.1 12 8)) x1) := ⟨_, rfl⟩
    have hf := nx_at e19 hf
    have hR : Rl E (sh_ b) (nn b) s.heap M19 H locs := by rw [e19]; exact hR
    refine lv_aload_n hx hb dX8_addPlace_20 rfl (lv_at hl 0 rfl) ?_
    refine x_get hx hb hown hts hK hR kX8 (z_12 b) (j := 10) (by decide) fl_X8_33 (v := .ref (eB E + 20)) rfl dX8_addPlace_21 ?_
    refine lv_aload_n hx hb dX8_addPlace_24 rfl (lv_at hl 0 rfl) ?_
    refine x_get hx hb hown hts hK hR kX8 (z_12 b) (j := 8) (by decide) fl_X8_43 (v := .int (M19.1 12 8)) rfl dX8_addPlace_25 ?_
    refine lv_iload_n hx hb dX8_addPlace_28 rfl (lv_at hl 2 rfl) ?_
    obtain ⟨g29, hf⟩ := br_g hf
    refine x_iast hx hb hK hR (z_20 b) g29 dX8_addPlace_29 (fun H locs hR => ?_)
    obtain ⟨M29, e29⟩ : ∃ y : Mem, y = (sI M19 20 (ix (M19.1 12 8)) x2) := ⟨_, rfl⟩
    have hf := nx_at e29 hf
    have hR : Rl E (sh_ b) (nn b) s.heap M29 H locs := by rw [e29]; exact hR
    refine lv_aload_n hx hb dX8_addPlace_30 rfl (lv_at hl 0 rfl) ?_
    refine lv_dup hx hb dX8_addPlace_31 rfl ?_
    refine x_get hx hb hown hts hK hR kX8 (z_12 b) (j := 8) (by decide) fl_X8_43 (v := .int (M29.1 12 8)) rfl dX8_addPlace_32 ?_
    refine lv_iconst (v := 1) hx hb dX8_addPlace_35 (by decide) ?_
    refine lv_iadd hx hb dX8_addPlace_36 ?_
    refine x_puti hx hb hown hts hK hR kX8 (z_12 b) (j := 8) (by decide) fl_X8_43 rfl rfl rfl rfl dX8_addPlace_37 (fun H locs hR => ?_)
    obtain ⟨M37, e37⟩ : ∃ y : Mem, y = (sI M29 12 8 ((M29.1 12 8) + (1 : Int32))) := ⟨_, rfl⟩
    have hf := nx_at e37 hf
    have hR : Rl E (sh_ b) (nn b) s.heap M37 H locs := by rw [e37]; exact hR
    refine lv_aload_n hx hb dX8_addPlace_40 rfl (lv_at hl 0 rfl) ?_
    refine lv_dup hx hb dX8_addPlace_41 rfl ?_
    refine x_get hx hb hown hts hK hR kX8 (z_12 b) (j := 15) (by decide) fl_X8_58 (v := .int (M37.1 12 15)) rfl dX8_addPlace_42 ?_
    refine lv_iconst (v := 1) hx hb dX8_addPlace_45 (by decide) ?_
    refine lv_iadd hx hb dX8_addPlace_46 ?_
    refine x_puti hx hb hown hts hK hR kX8 (z_12 b) (j := 15) (by decide) fl_X8_58 rfl rfl rfl rfl dX8_addPlace_47 (fun H locs hR => ?_)
    obtain ⟨M47, e47⟩ : ∃ y : Mem, y = (sI M37 12 15 ((M37.1 12 15) + (1 : Int32))) := ⟨_, rfl⟩
    have hf := nx_at e47 hf
    have hR : Rl E (sh_ b) (nn b) s.heap M47 H locs := by rw [e47]; exact hR
    cases hf
    exact x_vret hx hb hr hlk hR dX8_addPlace_50
  · have hf := (br_if hf).2 q6
    cases hf
    exact x_vret hx hb hr hlk hR dX8_addPlace_9
theorem ctX8_addPlace_d {l : Launch} {E : Ge} {b : Bool} {M : Mem} {x1 : Int32} {x2 : Int32} {M1 : Mem} (h : fX8_addPlace_d x1 x2 M = some M1) : CT l E yX8_addPlace cX8_addPlace 3 none 1 0 0 [.ref (eB E + 12), .int x1, .int x2] none (sh_ b) (nn b) M (sh_ b) (nn b) M1 := by
  refine met_of (by decide) (Nat.le_of_ble_eq_true rfl) ?_
  intro p e s m args below meth c X _ hR ls hl
  exact wX8_addPlace_d_0 X h hR hl
def fX8_addVoter_d (x1 : Int32) (x2 : Int32) (x3 : Int32) (x4 : Int32) (x5 : Int32) (x6 : Int32) (M : Mem) : Option Mem := (if (M.1 12 0) < (15 : Int32) then (if inb (M.1 12 0) 15 = true then nx (sI M 13 (ix (M.1 12 0)) x1) (fun M19 => (if inb (M19.1 12 0) 15 = true then nx (sI M19 14 (ix (M19.1 12 0)) x2) (fun M29 => (if inb (M29.1 12 0) 15 = true then nx (sI M29 15 (ix (M29.1 12 0)) x3) (fun M39 => (if inb (M39.1 12 0) 15 = true then nx (sI M39 16 (ix (M39.1 12 0)) x4) (fun M50 => (if inb (M50.1 12 0) 15 = true then nx (sI M50 17 (ix (M50.1 12 0)) x5) (fun M61 => (if inb (M61.1 12 0) 15 = true then nx (sI M61 18 (ix (M61.1 12 0)) x6) (fun M72 => nx (sI M72 12 0 ((M72.1 12 0) + (1 : Int32))) (fun M80 => nx (sI M80 12 7 ((M80.1 12 7) + x3)) (fun M90 => nx (sI M90 12 14 ((M90.1 12 14) + (1 : Int32))) (fun M100 => some M100)))) else none)) else none)) else none)) else none)) else none)) else none) else some M)
set_option maxHeartbeats 4000000 in
set_option maxRecDepth 100000 in
theorem wX8_addVoter_d_0 {M1 : Mem} (X : CX E p s m args c meth cX8_addVoter 7 none RX8) : ∀ {x1 : Int32} {x2 : Int32} {x3 : Int32} {x4 : Int32} {x5 : Int32} {x6 : Int32} {M : Mem} {H : Heap} {locs : List Loc} {ls : Array Slot}, fX8_addVoter_d x1 x2 x3 x4 x5 x6 M = some M1 → Rl E (sh_ b) (nn b) s.heap M H locs → lv_has ls 7 [(0, .ref (eB E + 12)), (1, .int x1), (2, .int x2), (3, .int x3), (4, .int x4), (5, .int x5), (6, .int x6)] → W p l e (rm 1 0 0) s m args below meth c H locs 0 0 (MQ below (qq E none (sh_ b) (nn b) M1) args s 0 0 (fr E)) (F0 m 0 ls []) := by
  obtain ⟨hx, hb, hr, hml, hown, hts, hK, hN, hO, hlk, hbs⟩ := id X
  intro x1 x2 x3 x4 x5 x6 M H locs ls hf hR hl
  unfold fX8_addVoter_d at hf
  refine lv_aload_n hx hb dX8_addVoter_0 rfl (lv_at hl 0 rfl) ?_
  refine x_get hx hb hown hts hK hR kX8 (z_12 b) (j := 0) (by decide) fl_X8_36 (v := .int (M.1 12 0)) rfl dX8_addVoter_1 ?_
  refine lv_bipush (v := 15) hx hb dX8_addVoter_4 (by decide) ?_
  refine lv_icmp_lt (tgt := 10) hx hb dX8_addVoter_6 (by decide) (fun q6 => ?_) (fun q6 => ?_)
  · have hf := (br_if hf).1 q6
    refine lv_aload_n hx hb dX8_addVoter_10 rfl (lv_at hl 0 rfl) ?_
    refine x_get hx hb hown hts hK hR kX8 (z_12 b) (j := 1) (by decide) fl_X8_9 (v := .ref (eB E + 13)) rfl dX8_addVoter_11 ?_
    refine lv_aload_n hx hb dX8_addVoter_14 rfl (lv_at hl 0 rfl) ?_
    refine x_get hx hb hown hts hK hR kX8 (z_12 b) (j := 0) (by decide) fl_X8_36 (v := .int (M.1 12 0)) rfl dX8_addVoter_15 ?_
    refine lv_iload_n hx hb dX8_addVoter_18 rfl (lv_at hl 1 rfl) ?_
    obtain ⟨g19, hf⟩ := br_g hf
    refine x_iast hx hb hK hR (z_13 b) g19 dX8_addVoter_19 (fun H locs hR => ?_)
    obtain ⟨M19, e19⟩ : ∃ y : Mem, y = (sI M 13 (ix (M.1 12 0)) x1) := ⟨_, rfl⟩
    have hf := nx_at e19 hf
    have hR : Rl E (sh_ b) (nn b) s.heap M19 H locs := by rw [e19]; exact hR
    refine lv_aload_n hx hb dX8_addVoter_20 rfl (lv_at hl 0 rfl) ?_
    refine x_get hx hb hown hts hK hR kX8 (z_12 b) (j := 2) (by decide) fl_X8_15 (v := .ref (eB E + 14)) rfl dX8_addVoter_21 ?_
    refine lv_aload_n hx hb dX8_addVoter_24 rfl (lv_at hl 0 rfl) ?_
    refine x_get hx hb hown hts hK hR kX8 (z_12 b) (j := 0) (by decide) fl_X8_36 (v := .int (M19.1 12 0)) rfl dX8_addVoter_25 ?_
    refine lv_iload_n hx hb dX8_addVoter_28 rfl (lv_at hl 2 rfl) ?_
    obtain ⟨g29, hf⟩ := br_g hf
    refine x_iast hx hb hK hR (z_14 b) g29 dX8_addVoter_29 (fun H locs hR => ?_)
    obtain ⟨M29, e29⟩ : ∃ y : Mem, y = (sI M19 14 (ix (M19.1 12 0)) x2) := ⟨_, rfl⟩
    have hf := nx_at e29 hf
    have hR : Rl E (sh_ b) (nn b) s.heap M29 H locs := by rw [e29]; exact hR
    refine lv_aload_n hx hb dX8_addVoter_30 rfl (lv_at hl 0 rfl) ?_
    refine x_get hx hb hown hts hK hR kX8 (z_12 b) (j := 3) (by decide) fl_X8_18 (v := .ref (eB E + 15)) rfl dX8_addVoter_31 ?_
    refine lv_aload_n hx hb dX8_addVoter_34 rfl (lv_at hl 0 rfl) ?_
    refine x_get hx hb hown hts hK hR kX8 (z_12 b) (j := 0) (by decide) fl_X8_36 (v := .int (M29.1 12 0)) rfl dX8_addVoter_35 ?_
    refine lv_iload_n hx hb dX8_addVoter_38 rfl (lv_at hl 3 rfl) ?_
    obtain ⟨g39, hf⟩ := br_g hf
    refine x_iast hx hb hK hR (z_15 b) g39 dX8_addVoter_39 (fun H locs hR => ?_)
    obtain ⟨M39, e39⟩ : ∃ y : Mem, y = (sI M29 15 (ix (M29.1 12 0)) x3) := ⟨_, rfl⟩
    have hf := nx_at e39 hf
    have hR : Rl E (sh_ b) (nn b) s.heap M39 H locs := by rw [e39]; exact hR
    refine lv_aload_n hx hb dX8_addVoter_40 rfl (lv_at hl 0 rfl) ?_
    refine x_get hx hb hown hts hK hR kX8 (z_12 b) (j := 4) (by decide) fl_X8_21 (v := .ref (eB E + 16)) rfl dX8_addVoter_41 ?_
    refine lv_aload_n hx hb dX8_addVoter_44 rfl (lv_at hl 0 rfl) ?_
    refine x_get hx hb hown hts hK hR kX8 (z_12 b) (j := 0) (by decide) fl_X8_36 (v := .int (M39.1 12 0)) rfl dX8_addVoter_45 ?_
    refine lv_iload hx hb dX8_addVoter_48 (lv_at hl 4 rfl) ?_
    obtain ⟨g50, hf⟩ := br_g hf
    refine x_iast hx hb hK hR (z_16 b) g50 dX8_addVoter_50 (fun H locs hR => ?_)
    obtain ⟨M50, e50⟩ : ∃ y : Mem, y = (sI M39 16 (ix (M39.1 12 0)) x4) := ⟨_, rfl⟩
    have hf := nx_at e50 hf
    have hR : Rl E (sh_ b) (nn b) s.heap M50 H locs := by rw [e50]; exact hR
    refine lv_aload_n hx hb dX8_addVoter_51 rfl (lv_at hl 0 rfl) ?_
    refine x_get hx hb hown hts hK hR kX8 (z_12 b) (j := 5) (by decide) fl_X8_24 (v := .ref (eB E + 17)) rfl dX8_addVoter_52 ?_
    refine lv_aload_n hx hb dX8_addVoter_55 rfl (lv_at hl 0 rfl) ?_
    refine x_get hx hb hown hts hK hR kX8 (z_12 b) (j := 0) (by decide) fl_X8_36 (v := .int (M50.1 12 0)) rfl dX8_addVoter_56 ?_
    refine lv_iload hx hb dX8_addVoter_59 (lv_at hl 5 rfl) ?_
    obtain ⟨g61, hf⟩ := br_g hf
    refine x_iast hx hb hK hR (z_17 b) g61 dX8_addVoter_61 (fun H locs hR => ?_)
    obtain ⟨M61, e61⟩ : ∃ y : Mem, y = (sI M50 17 (ix (M50.1 12 0)) x5) := ⟨_, rfl⟩
    have hf := nx_at e61 hf
    have hR : Rl E (sh_ b) (nn b) s.heap M61 H locs := by rw [e61]; exact hR
    refine lv_aload_n hx hb dX8_addVoter_62 rfl (lv_at hl 0 rfl) ?_
    refine x_get hx hb hown hts hK hR kX8 (z_12 b) (j := 6) (by decide) fl_X8_27 (v := .ref (eB E + 18)) rfl dX8_addVoter_63 ?_
    refine lv_aload_n hx hb dX8_addVoter_66 rfl (lv_at hl 0 rfl) ?_
    refine x_get hx hb hown hts hK hR kX8 (z_12 b) (j := 0) (by decide) fl_X8_36 (v := .int (M61.1 12 0)) rfl dX8_addVoter_67 ?_
    refine lv_iload hx hb dX8_addVoter_70 (lv_at hl 6 rfl) ?_
    obtain ⟨g72, hf⟩ := br_g hf
    refine x_iast hx hb hK hR (z_18 b) g72 dX8_addVoter_72 (fun H locs hR => ?_)
    obtain ⟨M72, e72⟩ : ∃ y : Mem, y = (sI M61 18 (ix (M61.1 12 0)) x6) := ⟨_, rfl⟩
    have hf := nx_at e72 hf
    have hR : Rl E (sh_ b) (nn b) s.heap M72 H locs := by rw [e72]; exact hR
    refine lv_aload_n hx hb dX8_addVoter_73 rfl (lv_at hl 0 rfl) ?_
    refine lv_dup hx hb dX8_addVoter_74 rfl ?_
    refine x_get hx hb hown hts hK hR kX8 (z_12 b) (j := 0) (by decide) fl_X8_36 (v := .int (M72.1 12 0)) rfl dX8_addVoter_75 ?_
    refine lv_iconst (v := 1) hx hb dX8_addVoter_78 (by decide) ?_
    refine lv_iadd hx hb dX8_addVoter_79 ?_
    refine x_puti hx hb hown hts hK hR kX8 (z_12 b) (j := 0) (by decide) fl_X8_36 rfl rfl rfl rfl dX8_addVoter_80 (fun H locs hR => ?_)
    obtain ⟨M80, e80⟩ : ∃ y : Mem, y = (sI M72 12 0 ((M72.1 12 0) + (1 : Int32))) := ⟨_, rfl⟩
    have hf := nx_at e80 hf
    have hR : Rl E (sh_ b) (nn b) s.heap M80 H locs := by rw [e80]; exact hR
    refine lv_aload_n hx hb dX8_addVoter_83 rfl (lv_at hl 0 rfl) ?_
    refine lv_dup hx hb dX8_addVoter_84 rfl ?_
    refine x_get hx hb hown hts hK hR kX8 (z_12 b) (j := 7) (by decide) fl_X8_40 (v := .int (M80.1 12 7)) rfl dX8_addVoter_85 ?_
    refine lv_iload_n hx hb dX8_addVoter_88 rfl (lv_at hl 3 rfl) ?_
    refine lv_iadd hx hb dX8_addVoter_89 ?_
    refine x_puti hx hb hown hts hK hR kX8 (z_12 b) (j := 7) (by decide) fl_X8_40 rfl rfl rfl rfl dX8_addVoter_90 (fun H locs hR => ?_)
    obtain ⟨M90, e90⟩ : ∃ y : Mem, y = (sI M80 12 7 ((M80.1 12 7) + x3)) := ⟨_, rfl⟩
    have hf := nx_at e90 hf
    have hR : Rl E (sh_ b) (nn b) s.heap M90 H locs := by rw [e90]; exact hR
    refine lv_aload_n hx hb dX8_addVoter_93 rfl (lv_at hl 0 rfl) ?_
    refine lv_dup hx hb dX8_addVoter_94 rfl ?_
    refine x_get hx hb hown hts hK hR kX8 (z_12 b) (j := 14) (by decide) fl_X8_55 (v := .int (M90.1 12 14)) rfl dX8_addVoter_95 ?_
    refine lv_iconst (v := 1) hx hb dX8_addVoter_98 (by decide) ?_
    refine lv_iadd hx hb dX8_addVoter_99 ?_
    refine x_puti hx hb hown hts hK hR kX8 (z_12 b) (j := 14) (by decide) fl_X8_55 rfl rfl rfl rfl dX8_addVoter_100 (fun H locs hR => ?_)
    obtain ⟨M100, e100⟩ : ∃ y : Mem, y = (sI M90 12 14 ((M90.1 12 14) + (1 : Int32))) := ⟨_, rfl⟩
    have hf := nx_at e100 hf
    have hR : Rl E (sh_ b) (nn b) s.heap M100 H locs := by rw [e100]; exact hR
    cases hf
    exact x_vret hx hb hr hlk hR dX8_addVoter_103
  · have hf := (br_if hf).2 q6
    cases hf
    exact x_vret hx hb hr hlk hR dX8_addVoter_9
theorem ctX8_addVoter_d {l : Launch} {E : Ge} {b : Bool} {M : Mem} {x1 : Int32} {x2 : Int32} {x3 : Int32} {x4 : Int32} {x5 : Int32} {x6 : Int32} {M1 : Mem} (h : fX8_addVoter_d x1 x2 x3 x4 x5 x6 M = some M1) : CT l E yX8_addVoter cX8_addVoter 7 none 1 0 0 [.ref (eB E + 12), .int x1, .int x2, .int x3, .int x4, .int x5, .int x6] none (sh_ b) (nn b) M (sh_ b) (nn b) M1 := by
  refine met_of (by decide) (Nat.le_of_ble_eq_true rfl) ?_
  intro p e s m args below meth c X _ hR ls hl
  exact wX8_addVoter_d_0 X h hR hl
end WK
