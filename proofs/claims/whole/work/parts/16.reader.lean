section WK
variable {p : Program} {l : Launch} {e : Env} {s : State} {m : MethodId} {args : Array Value} {below : List Frame} {meth : Method} {c : Code} {E : Ge} {b : Bool}
def fX6_append_40 (k3 : Int32 → Int32 → Mem → Option Mem) (k46 : Mem → Option Mem) (x1 : Int32) (x2 : Int32) (M : Mem) : Option Mem := nx (x2 + (-8 : Int32)) (fun v40 => k3 x1 v40 M)
def fX6_append_3 (k46 : Mem → Option Mem) : Nat → Int32 → Int32 → Mem → Option Mem
  | 0, _, _, _ => none
  | n + 1, x1, x2, M => (if x2 < 0 then k46 M else (if (600 : Int32) ≤ (M.1 10 1) then fX6_append_40 (fX6_append_3 k46 n) k46 x1 x2 M else (if inb (M.1 10 1) 600 = true then nx (sI M 11 (ix (M.1 10 1)) (ush x1 x2).toInt8.toInt32.toInt8.toInt32) (fun M29 => nx (sI M29 10 1 ((M29.1 10 1) + (1 : Int32))) (fun M37 => fX6_append_40 (fX6_append_3 k46 n) k46 x1 x2 M37)) else none)))
def fX6_append_46 (M : Mem) : Option Mem := some M
def fX6_append (x1 : Int32) (M : Mem) : Option Mem := fX6_append_3 fX6_append_46 FU x1 (24 : Int32) M
set_option maxHeartbeats 4000000 in
set_option maxRecDepth 100000 in
theorem wX6_append_40 {M1 : Mem} {k3 : Int32 → Int32 → Mem → Option Mem} {k46 : Mem → Option Mem} (X : CX E p s m args c meth cX6_append 3 none RX6) (hk3 : ∀ {x1 : Int32} {x2 : Int32} {M : Mem} {H : Heap} {locs : List Loc} {ls : Array Slot}, k3 x1 x2 M = some M1 → Rl E (sh_ b) (nn b) s.heap M H locs → lv_has ls 3 [(0, .ref (eB E + 10)), (1, .int x1), (2, .int x2)] → W p l e (rm 1 0 0) s m args below meth c H locs 0 0 (MQ below (qq E none (sh_ b) (nn b) M1) args s 0 0 (fr E)) (F0 m 3 ls [])) (hk46 : ∀ {M : Mem} {H : Heap} {locs : List Loc} {ls : Array Slot}, k46 M = some M1 → Rl E (sh_ b) (nn b) s.heap M H locs → lv_has ls 3 [] → W p l e (rm 1 0 0) s m args below meth c H locs 0 0 (MQ below (qq E none (sh_ b) (nn b) M1) args s 0 0 (fr E)) (F0 m 46 ls [])) : ∀ {x1 : Int32} {x2 : Int32} {M : Mem} {H : Heap} {locs : List Loc} {ls : Array Slot}, fX6_append_40 k3 k46 x1 x2 M = some M1 → Rl E (sh_ b) (nn b) s.heap M H locs → lv_has ls 3 [(0, .ref (eB E + 10)), (1, .int x1), (2, .int x2)] → W p l e (rm 1 0 0) s m args below meth c H locs 0 0 (MQ below (qq E none (sh_ b) (nn b) M1) args s 0 0 (fr E)) (F0 m 40 ls []) := by
  obtain ⟨hx, hb, hr, hml, hown, hts, hK, hN, hO, hlk, hbs⟩ := id X
  intro x1 x2 M H locs ls hf hR hl
  unfold fX6_append_40 at hf
  obtain ⟨v40, e40⟩ : ∃ y : Int32, y = (x2 + (-8 : Int32)) := ⟨_, rfl⟩
  have hf := nx_at e40 hf
  refine lv_iinc (v := v40) (lv' := [(2, .int v40), (0, .ref (eB E + 10)), (1, .int x1)]) hx hb dX6_append_40 hl (k := 2) rfl (by rw [e40]; rfl) (by decide) rfl (fun ls hl => ?_)
  refine lv_goto (tgt := 3) hx hb dX6_append_43 (by decide) ?_
  exact hk3 hf hR (lv_sub hl [1, 2, 0] rfl)
set_option maxHeartbeats 4000000 in
set_option maxRecDepth 100000 in
theorem wX6_append_3 {M1 : Mem} {k46 : Mem → Option Mem} (X : CX E p s m args c meth cX6_append 3 none RX6) (hk46 : ∀ {M : Mem} {H : Heap} {locs : List Loc} {ls : Array Slot}, k46 M = some M1 → Rl E (sh_ b) (nn b) s.heap M H locs → lv_has ls 3 [] → W p l e (rm 1 0 0) s m args below meth c H locs 0 0 (MQ below (qq E none (sh_ b) (nn b) M1) args s 0 0 (fr E)) (F0 m 46 ls [])) : ∀ (n : Nat) {x1 : Int32} {x2 : Int32} {M : Mem} {H : Heap} {locs : List Loc} {ls : Array Slot}, fX6_append_3 k46 n x1 x2 M = some M1 → Rl E (sh_ b) (nn b) s.heap M H locs → lv_has ls 3 [(0, .ref (eB E + 10)), (1, .int x1), (2, .int x2)] → W p l e (rm 1 0 0) s m args below meth c H locs 0 0 (MQ below (qq E none (sh_ b) (nn b) M1) args s 0 0 (fr E)) (F0 m 3 ls []) := by
  obtain ⟨hx, hb, hr, hml, hown, hts, hK, hN, hO, hlk, hbs⟩ := id X
  intro n
  induction n with
  | zero =>
    intro x1 x2 M H locs ls hf hR hl
    exact absurd (show none = some _ from hf) (fun h => by cases h)
  | succ n ih =>
    intro x1 x2 M H locs ls hf hR hl
    rw [fX6_append_3] at hf
    refine lv_iload_n hx hb dX6_append_3 rfl (lv_at hl 2 rfl) ?_
    refine lv_if_lt (tgt := 46) hx hb dX6_append_4 (by decide) (fun q4 => ?_) (fun q4 => ?_)
    · have hf := (br_if hf).1 q4
      exact hk46 hf hR (lv_sub hl [] rfl)
    · have hf := (br_if hf).2 q4
      refine lv_aload_n hx hb dX6_append_7 rfl (lv_at hl 0 rfl) ?_
      refine x_get hx hb hown hts hK hR kX6 (z_10 b) (j := 1) (by decide) fl_X6_22 (v := .int (M.1 10 1)) rfl dX6_append_8 ?_
      refine lv_sipush (v := 600) hx hb dX6_append_11 (by decide) ?_
      refine lv_icmp_ge (tgt := 40) hx hb dX6_append_14 (by decide) (fun q14 => ?_) (fun q14 => ?_)
      · have hf := (br_if hf).1 q14
        exact wX6_append_40 X (fun hf hR hl => ih hf hR hl) (fun hf hR hl => hk46 hf hR hl) hf hR hl
      · have hf := (br_if hf).2 q14
        refine lv_aload_n hx hb dX6_append_17 rfl (lv_at hl 0 rfl) ?_
        refine x_get hx hb hown hts hK hR kX6 (z_10 b) (j := 0) (by decide) fl_X6_9 (v := .ref (eB E + 11)) rfl dX6_append_18 ?_
        refine lv_aload_n hx hb dX6_append_21 rfl (lv_at hl 0 rfl) ?_
        refine x_get hx hb hown hts hK hR kX6 (z_10 b) (j := 1) (by decide) fl_X6_22 (v := .int (M.1 10 1)) rfl dX6_append_22 ?_
        refine lv_iload_n hx hb dX6_append_25 rfl (lv_at hl 1 rfl) ?_
        refine lv_iload_n hx hb dX6_append_26 rfl (lv_at hl 2 rfl) ?_
        refine lv_iushr (v := (ush x1 x2)) hx hb dX6_append_27 rfl ?_
        refine lv_i2b (v := (ush x1 x2).toInt8.toInt32) hx hb dX6_append_28 rfl ?_
        obtain ⟨g29, hf⟩ := br_g hf
        refine x_bast hx hb hK hR (z_11 b) g29 dX6_append_29 (fun H locs hR => ?_)
        obtain ⟨M29, e29⟩ : ∃ y : Mem, y = (sI M 11 (ix (M.1 10 1)) (ush x1 x2).toInt8.toInt32.toInt8.toInt32) := ⟨_, rfl⟩
        have hf := nx_at e29 hf
        have hR : Rl E (sh_ b) (nn b) s.heap M29 H locs := by rw [e29]; exact hR
        refine lv_aload_n hx hb dX6_append_30 rfl (lv_at hl 0 rfl) ?_
        refine lv_dup hx hb dX6_append_31 rfl ?_
        refine x_get hx hb hown hts hK hR kX6 (z_10 b) (j := 1) (by decide) fl_X6_22 (v := .int (M29.1 10 1)) rfl dX6_append_32 ?_
        refine lv_iconst (v := 1) hx hb dX6_append_35 (by decide) ?_
        refine lv_iadd hx hb dX6_append_36 ?_
        refine x_puti hx hb hown hts hK hR kX6 (z_10 b) (j := 1) (by decide) fl_X6_22 rfl rfl rfl rfl dX6_append_37 (fun H locs hR => ?_)
        obtain ⟨M37, e37⟩ : ∃ y : Mem, y = (sI M29 10 1 ((M29.1 10 1) + (1 : Int32))) := ⟨_, rfl⟩
        have hf := nx_at e37 hf
        have hR : Rl E (sh_ b) (nn b) s.heap M37 H locs := by rw [e37]; exact hR
        exact wX6_append_40 X (fun hf hR hl => ih hf hR hl) (fun hf hR hl => hk46 hf hR hl) hf hR hl
set_option maxHeartbeats 4000000 in
set_option maxRecDepth 100000 in
theorem wX6_append_46 {M1 : Mem} (X : CX E p s m args c meth cX6_append 3 none RX6) : ∀ {M : Mem} {H : Heap} {locs : List Loc} {ls : Array Slot}, fX6_append_46 M = some M1 → Rl E (sh_ b) (nn b) s.heap M H locs → lv_has ls 3 [] → W p l e (rm 1 0 0) s m args below meth c H locs 0 0 (MQ below (qq E none (sh_ b) (nn b) M1) args s 0 0 (fr E)) (F0 m 46 ls []) := by
  obtain ⟨hx, hb, hr, hml, hown, hts, hK, hN, hO, hlk, hbs⟩ := id X
  intro M H locs ls hf hR hl
  unfold fX6_append_46 at hf
  cases hf
  exact x_vret hx hb hr hlk hR dX6_append_46
set_option maxHeartbeats 4000000 in
set_option maxRecDepth 100000 in
theorem wX6_append_0 {M1 : Mem} (X : CX E p s m args c meth cX6_append 3 none RX6) : ∀ {x1 : Int32} {M : Mem} {H : Heap} {locs : List Loc} {ls : Array Slot}, fX6_append x1 M = some M1 → Rl E (sh_ b) (nn b) s.heap M H locs → lv_has ls 3 [(0, .ref (eB E + 10)), (1, .int x1)] → W p l e (rm 1 0 0) s m args below meth c H locs 0 0 (MQ below (qq E none (sh_ b) (nn b) M1) args s 0 0 (fr E)) (F0 m 0 ls []) := by
  obtain ⟨hx, hb, hr, hml, hown, hts, hK, hN, hO, hlk, hbs⟩ := id X
  intro x1 M H locs ls hf hR hl
  unfold fX6_append at hf
  refine lv_bipush (v := 24) hx hb dX6_append_0 (by decide) ?_
  refine lv_istore_n (lv' := [(2, .int (24 : Int32)), (0, .ref (eB E + 10)), (1, .int x1)]) hx hb dX6_append_2 rfl hl (by decide) rfl (fun ls hl => ?_)
  exact wX6_append_3 X (fun hf hR hl => wX6_append_46 X hf hR hl) FU hf hR (lv_sub hl [1, 2, 0] rfl)
theorem ctX6_append {l : Launch} {E : Ge} {b : Bool} {M : Mem} {x1 : Int32} {M1 : Mem} (h : fX6_append x1 M = some M1) : CT l E yX6_append cX6_append 3 none 1 0 0 [.ref (eB E + 10), .int x1] none (sh_ b) (nn b) M (sh_ b) (nn b) M1 := by
  refine met_of (by decide) (Nat.le_of_ble_eq_true rfl) ?_
  intro p e s m args below meth c X _ hR ls hl
  exact wX6_append_0 X h hR hl
def fX6_isLetter_27 (M : Mem) (s0 : Int32) : Option Int32 := some (s0 &&& 1)
def fX6_isLetter_26 (M : Mem) : Option Int32 := fX6_isLetter_27 M (0 : Int32)
def fX6_isLetter (M : Mem) (x1 : Int32) : Option Int32 := (if inb x1 600 = true then (if (M.1 11 (ix x1)) < (97 : Int32) then fX6_isLetter_26 M else (if inb x1 600 = true then (if (122 : Int32) < (M.1 11 (ix x1)) then fX6_isLetter_26 M else fX6_isLetter_27 M (1 : Int32)) else none)) else none)
set_option maxHeartbeats 4000000 in
set_option maxRecDepth 100000 in
theorem wX6_isLetter_27 {r : Int32} {M : Mem} (X : CX E p s m args c meth cX6_isLetter 2 (some .boolean) RX6) : ∀ {s0 : Int32} {H : Heap} {locs : List Loc} {ls : Array Slot}, fX6_isLetter_27 M s0 = some r → Rl E (sh_ b) (nn b) s.heap M H locs → lv_has ls 2 [] → W p l e (rm 1 0 0) s m args below meth c H locs 0 0 (MQ below (qq E (some (.int r)) (sh_ b) (nn b) M) args s 0 0 (fr E)) (F0 m 27 ls [.int s0]) := by
  obtain ⟨hx, hb, hr, hml, hown, hts, hK, hN, hO, hlk, hbs⟩ := id X
  intro s0 H locs ls hf hR hl
  unfold fX6_isLetter_27 at hf
  cases hf
  exact x_zret hx hb hr hlk hR rfl dX6_isLetter_27
set_option maxHeartbeats 4000000 in
set_option maxRecDepth 100000 in
theorem wX6_isLetter_26 {r : Int32} {M : Mem} (X : CX E p s m args c meth cX6_isLetter 2 (some .boolean) RX6) : ∀ {H : Heap} {locs : List Loc} {ls : Array Slot}, fX6_isLetter_26 M = some r → Rl E (sh_ b) (nn b) s.heap M H locs → lv_has ls 2 [] → W p l e (rm 1 0 0) s m args below meth c H locs 0 0 (MQ below (qq E (some (.int r)) (sh_ b) (nn b) M) args s 0 0 (fr E)) (F0 m 26 ls []) := by
  obtain ⟨hx, hb, hr, hml, hown, hts, hK, hN, hO, hlk, hbs⟩ := id X
  intro H locs ls hf hR hl
  unfold fX6_isLetter_26 at hf
  refine lv_iconst (v := 0) hx hb dX6_isLetter_26 (by decide) ?_
  exact wX6_isLetter_27 X hf hR hl
set_option maxHeartbeats 4000000 in
set_option maxRecDepth 100000 in
theorem wX6_isLetter_0 {r : Int32} {M : Mem} (X : CX E p s m args c meth cX6_isLetter 2 (some .boolean) RX6) : ∀ {x1 : Int32} {H : Heap} {locs : List Loc} {ls : Array Slot}, fX6_isLetter M x1 = some r → Rl E (sh_ b) (nn b) s.heap M H locs → lv_has ls 2 [(0, .ref (eB E + 10)), (1, .int x1)] → W p l e (rm 1 0 0) s m args below meth c H locs 0 0 (MQ below (qq E (some (.int r)) (sh_ b) (nn b) M) args s 0 0 (fr E)) (F0 m 0 ls []) := by
  obtain ⟨hx, hb, hr, hml, hown, hts, hK, hN, hO, hlk, hbs⟩ := id X
  intro x1 H locs ls hf hR hl
  unfold fX6_isLetter at hf
  refine lv_aload_n hx hb dX6_isLetter_0 rfl (lv_at hl 0 rfl) ?_
  refine x_get hx hb hown hts hK hR kX6 (z_10 b) (j := 0) (by decide) fl_X6_9 (v := .ref (eB E + 11)) rfl dX6_isLetter_1 ?_
  refine lv_iload_n hx hb dX6_isLetter_4 rfl (lv_at hl 1 rfl) ?_
  obtain ⟨g5, hf⟩ := br_g hf
  refine x_bald hx hb hK hR (z_11 b) g5 dX6_isLetter_5 ?_
  refine lv_bipush (v := 97) hx hb dX6_isLetter_6 (by decide) ?_
  refine lv_icmp_lt (tgt := 26) hx hb dX6_isLetter_8 (by decide) (fun q8 => ?_) (fun q8 => ?_)
  · have hf := (br_if hf).1 q8
    exact wX6_isLetter_26 X hf hR (lv_sub hl [] rfl)
  · have hf := (br_if hf).2 q8
    refine lv_aload_n hx hb dX6_isLetter_11 rfl (lv_at hl 0 rfl) ?_
    refine x_get hx hb hown hts hK hR kX6 (z_10 b) (j := 0) (by decide) fl_X6_9 (v := .ref (eB E + 11)) rfl dX6_isLetter_12 ?_
    refine lv_iload_n hx hb dX6_isLetter_15 rfl (lv_at hl 1 rfl) ?_
    obtain ⟨g16, hf⟩ := br_g hf
    refine x_bald hx hb hK hR (z_11 b) g16 dX6_isLetter_16 ?_
    refine lv_bipush (v := 122) hx hb dX6_isLetter_17 (by decide) ?_
    refine lv_icmp_gt (tgt := 26) hx hb dX6_isLetter_19 (by decide) (fun q19 => ?_) (fun q19 => ?_)
    · have hf := (br_if hf).1 q19
      exact wX6_isLetter_26 X hf hR (lv_sub hl [] rfl)
    · have hf := (br_if hf).2 q19
      refine lv_iconst (v := 1) hx hb dX6_isLetter_22 (by decide) ?_
      refine lv_goto (tgt := 27) hx hb dX6_isLetter_23 (by decide) ?_
      exact wX6_isLetter_27 X hf hR (lv_sub hl [] rfl)
theorem ctX6_isLetter {l : Launch} {E : Ge} {b : Bool} {M : Mem} {x1 : Int32} {r : Int32} (h : fX6_isLetter M x1 = some r) : CT l E yX6_isLetter cX6_isLetter 2 (some .boolean) 1 0 0 [.ref (eB E + 10), .int x1] (some (.int r)) (sh_ b) (nn b) M (sh_ b) (nn b) M := by
  refine met_of (by decide) (Nat.le_of_ble_eq_true rfl) ?_
  intro p e s m args below meth c X _ hR ls hl
  exact wX6_isLetter_0 X h hR hl
def fX6_isDigit_27 (M : Mem) (s0 : Int32) : Option Int32 := some (s0 &&& 1)
def fX6_isDigit_26 (M : Mem) : Option Int32 := fX6_isDigit_27 M (0 : Int32)
def fX6_isDigit (M : Mem) (x1 : Int32) : Option Int32 := (if inb x1 600 = true then (if (M.1 11 (ix x1)) < (48 : Int32) then fX6_isDigit_26 M else (if inb x1 600 = true then (if (57 : Int32) < (M.1 11 (ix x1)) then fX6_isDigit_26 M else fX6_isDigit_27 M (1 : Int32)) else none)) else none)
set_option maxHeartbeats 4000000 in
set_option maxRecDepth 100000 in
theorem wX6_isDigit_27 {r : Int32} {M : Mem} (X : CX E p s m args c meth cX6_isDigit 2 (some .boolean) RX6) : ∀ {s0 : Int32} {H : Heap} {locs : List Loc} {ls : Array Slot}, fX6_isDigit_27 M s0 = some r → Rl E (sh_ b) (nn b) s.heap M H locs → lv_has ls 2 [] → W p l e (rm 1 0 0) s m args below meth c H locs 0 0 (MQ below (qq E (some (.int r)) (sh_ b) (nn b) M) args s 0 0 (fr E)) (F0 m 27 ls [.int s0]) := by
  obtain ⟨hx, hb, hr, hml, hown, hts, hK, hN, hO, hlk, hbs⟩ := id X
  intro s0 H locs ls hf hR hl
  unfold fX6_isDigit_27 at hf
  cases hf
  exact x_zret hx hb hr hlk hR rfl dX6_isDigit_27
set_option maxHeartbeats 4000000 in
set_option maxRecDepth 100000 in
theorem wX6_isDigit_26 {r : Int32} {M : Mem} (X : CX E p s m args c meth cX6_isDigit 2 (some .boolean) RX6) : ∀ {H : Heap} {locs : List Loc} {ls : Array Slot}, fX6_isDigit_26 M = some r → Rl E (sh_ b) (nn b) s.heap M H locs → lv_has ls 2 [] → W p l e (rm 1 0 0) s m args below meth c H locs 0 0 (MQ below (qq E (some (.int r)) (sh_ b) (nn b) M) args s 0 0 (fr E)) (F0 m 26 ls []) := by
  obtain ⟨hx, hb, hr, hml, hown, hts, hK, hN, hO, hlk, hbs⟩ := id X
  intro H locs ls hf hR hl
  unfold fX6_isDigit_26 at hf
  refine lv_iconst (v := 0) hx hb dX6_isDigit_26 (by decide) ?_
  exact wX6_isDigit_27 X hf hR hl
set_option maxHeartbeats 4000000 in
set_option maxRecDepth 100000 in
theorem wX6_isDigit_0 {r : Int32} {M : Mem} (X : CX E p s m args c meth cX6_isDigit 2 (some .boolean) RX6) : ∀ {x1 : Int32} {H : Heap} {locs : List Loc} {ls : Array Slot}, fX6_isDigit M x1 = some r → Rl E (sh_ b) (nn b) s.heap M H locs → lv_has ls 2 [(0, .ref (eB E + 10)), (1, .int x1)] → W p l e (rm 1 0 0) s m args below meth c H locs 0 0 (MQ below (qq E (some (.int r)) (sh_ b) (nn b) M) args s 0 0 (fr E)) (F0 m 0 ls []) := by
  obtain ⟨hx, hb, hr, hml, hown, hts, hK, hN, hO, hlk, hbs⟩ := id X
  intro x1 H locs ls hf hR hl
  unfold fX6_isDigit at hf
  refine lv_aload_n hx hb dX6_isDigit_0 rfl (lv_at hl 0 rfl) ?_
  refine x_get hx hb hown hts hK hR kX6 (z_10 b) (j := 0) (by decide) fl_X6_9 (v := .ref (eB E + 11)) rfl dX6_isDigit_1 ?_
  refine lv_iload_n hx hb dX6_isDigit_4 rfl (lv_at hl 1 rfl) ?_
  obtain ⟨g5, hf⟩ := br_g hf
  refine x_bald hx hb hK hR (z_11 b) g5 dX6_isDigit_5 ?_
  refine lv_bipush (v := 48) hx hb dX6_isDigit_6 (by decide) ?_
  refine lv_icmp_lt (tgt := 26) hx hb dX6_isDigit_8 (by decide) (fun q8 => ?_) (fun q8 => ?_)
  · have hf := (br_if hf).1 q8
    exact wX6_isDigit_26 X hf hR (lv_sub hl [] rfl)
  · have hf := (br_if hf).2 q8
    refine lv_aload_n hx hb dX6_isDigit_11 rfl (lv_at hl 0 rfl) ?_
    refine x_get hx hb hown hts hK hR kX6 (z_10 b) (j := 0) (by decide) fl_X6_9 (v := .ref (eB E + 11)) rfl dX6_isDigit_12 ?_
    refine lv_iload_n hx hb dX6_isDigit_15 rfl (lv_at hl 1 rfl) ?_
    obtain ⟨g16, hf⟩ := br_g hf
    refine x_bald hx hb hK hR (z_11 b) g16 dX6_isDigit_16 ?_
    refine lv_bipush (v := 57) hx hb dX6_isDigit_17 (by decide) ?_
    refine lv_icmp_gt (tgt := 26) hx hb dX6_isDigit_19 (by decide) (fun q19 => ?_) (fun q19 => ?_)
    · have hf := (br_if hf).1 q19
      exact wX6_isDigit_26 X hf hR (lv_sub hl [] rfl)
    · have hf := (br_if hf).2 q19
      refine lv_iconst (v := 1) hx hb dX6_isDigit_22 (by decide) ?_
      refine lv_goto (tgt := 27) hx hb dX6_isDigit_23 (by decide) ?_
      exact wX6_isDigit_27 X hf hR (lv_sub hl [] rfl)
theorem ctX6_isDigit {l : Launch} {E : Ge} {b : Bool} {M : Mem} {x1 : Int32} {r : Int32} (h : fX6_isDigit M x1 = some r) : CT l E yX6_isDigit cX6_isDigit 2 (some .boolean) 1 0 0 [.ref (eB E + 10), .int x1] (some (.int r)) (sh_ b) (nn b) M (sh_ b) (nn b) M := by
  refine met_of (by decide) (Nat.le_of_ble_eq_true rfl) ?_
  intro p e s m args below meth c X _ hR ls hl
  exact wX6_isDigit_0 X h hR hl
def fX6_signAt_29 (M : Mem) (s0 : Int32) : Option Int32 := some s0
def fX6_signAt (M : Mem) (x1 : Int32) : Option Int32 := (if inb x1 600 = true then (if (M.1 11 (ix x1)) = (47 : Int32) then some (4 : Int32) else (if inb x1 600 = true then (if (M.1 11 (ix x1)) = (59 : Int32) then fX6_signAt_29 M (5 : Int32) else fX6_signAt_29 M (1 : Int32)) else none)) else none)
set_option maxHeartbeats 4000000 in
set_option maxRecDepth 100000 in
theorem wX6_signAt_29 {r : Int32} {M : Mem} (X : CX E p s m args c meth cX6_signAt 2 (some .int) RX6) : ∀ {s0 : Int32} {H : Heap} {locs : List Loc} {ls : Array Slot}, fX6_signAt_29 M s0 = some r → Rl E (sh_ b) (nn b) s.heap M H locs → lv_has ls 2 [] → W p l e (rm 1 0 0) s m args below meth c H locs 0 0 (MQ below (qq E (some (.int r)) (sh_ b) (nn b) M) args s 0 0 (fr E)) (F0 m 29 ls [.int s0]) := by
  obtain ⟨hx, hb, hr, hml, hown, hts, hK, hN, hO, hlk, hbs⟩ := id X
  intro s0 H locs ls hf hR hl
  unfold fX6_signAt_29 at hf
  cases hf
  exact x_iret hx hb hr hlk hR dX6_signAt_29
set_option maxHeartbeats 4000000 in
set_option maxRecDepth 100000 in
theorem wX6_signAt_0 {r : Int32} {M : Mem} (X : CX E p s m args c meth cX6_signAt 2 (some .int) RX6) : ∀ {x1 : Int32} {H : Heap} {locs : List Loc} {ls : Array Slot}, fX6_signAt M x1 = some r → Rl E (sh_ b) (nn b) s.heap M H locs → lv_has ls 2 [(0, .ref (eB E + 10)), (1, .int x1)] → W p l e (rm 1 0 0) s m args below meth c H locs 0 0 (MQ below (qq E (some (.int r)) (sh_ b) (nn b) M) args s 0 0 (fr E)) (F0 m 0 ls []) := by
  obtain ⟨hx, hb, hr, hml, hown, hts, hK, hN, hO, hlk, hbs⟩ := id X
  intro x1 H locs ls hf hR hl
  unfold fX6_signAt at hf
  refine lv_aload_n hx hb dX6_signAt_0 rfl (lv_at hl 0 rfl) ?_
  refine x_get hx hb hown hts hK hR kX6 (z_10 b) (j := 0) (by decide) fl_X6_9 (v := .ref (eB E + 11)) rfl dX6_signAt_1 ?_
  refine lv_iload_n hx hb dX6_signAt_4 rfl (lv_at hl 1 rfl) ?_
  obtain ⟨g5, hf⟩ := br_g hf
  refine x_bald hx hb hK hR (z_11 b) g5 dX6_signAt_5 ?_
  refine lv_bipush (v := 47) hx hb dX6_signAt_6 (by decide) ?_
  refine lv_icmp_ne (tgt := 13) hx hb dX6_signAt_8 (by decide) (fun q8 => ?_) (fun q8 => ?_)
  · have hf := (br_if hf).2 q8
    refine lv_aload_n hx hb dX6_signAt_13 rfl (lv_at hl 0 rfl) ?_
    refine x_get hx hb hown hts hK hR kX6 (z_10 b) (j := 0) (by decide) fl_X6_9 (v := .ref (eB E + 11)) rfl dX6_signAt_14 ?_
    refine lv_iload_n hx hb dX6_signAt_17 rfl (lv_at hl 1 rfl) ?_
    obtain ⟨g18, hf⟩ := br_g hf
    refine x_bald hx hb hK hR (z_11 b) g18 dX6_signAt_18 ?_
    refine lv_bipush (v := 59) hx hb dX6_signAt_19 (by decide) ?_
    refine lv_icmp_ne (tgt := 28) hx hb dX6_signAt_21 (by decide) (fun q21 => ?_) (fun q21 => ?_)
    · have hf := (br_if hf).2 q21
      refine lv_iconst (v := 1) hx hb dX6_signAt_28 (by decide) ?_
      exact wX6_signAt_29 X hf hR (lv_sub hl [] rfl)
    · have hf := (br_if hf).1 q21
      refine lv_iconst (v := 5) hx hb dX6_signAt_24 (by decide) ?_
      refine lv_goto (tgt := 29) hx hb dX6_signAt_25 (by decide) ?_
      exact wX6_signAt_29 X hf hR (lv_sub hl [] rfl)
  · have hf := (br_if hf).1 q8
    refine lv_iconst (v := 4) hx hb dX6_signAt_11 (by decide) ?_
    cases hf
    exact x_iret hx hb hr hlk hR dX6_signAt_12
theorem ctX6_signAt {l : Launch} {E : Ge} {b : Bool} {M : Mem} {x1 : Int32} {r : Int32} (h : fX6_signAt M x1 = some r) : CT l E yX6_signAt cX6_signAt 2 (some .int) 1 0 0 [.ref (eB E + 10), .int x1] (some (.int r)) (sh_ b) (nn b) M (sh_ b) (nn b) M := by
  refine met_of (by decide) (Nat.le_of_ble_eq_true rfl) ?_
  intro p e s m args below meth c X _ hR ls hl
  exact wX6_signAt_0 X h hR hl
def fX6_next_47 (k8 : Mem → Option Mem) (k60 : Mem → Option Mem) (M : Mem) : Option Mem := nx (sI M 10 4 ((M.1 10 4) + (1 : Int32))) (fun M54 => k8 M54)
def fX6_next_8 (k60 : Mem → Option Mem) : Nat → Mem → Option Mem
  | 0, _ => none
  | n + 1, M => (if (M.1 10 1) ≤ (M.1 10 4) then k60 M else (if inb (M.1 10 4) 600 = true then (if (M.1 11 (ix (M.1 10 4))) = (32 : Int32) then fX6_next_47 (fX6_next_8 k60 n) k60 M else (if inb (M.1 10 4) 600 = true then (if (M.1 11 (ix (M.1 10 4))) = (10 : Int32) then fX6_next_47 (fX6_next_8 k60 n) k60 M else k60 M) else none)) else none))
def fX6_next_103 (k246 : Mem → Option Mem) : Nat → Mem → Option Mem
  | 0, _ => none
  | n + 1, M => (if (M.1 10 1) ≤ (M.1 10 5) then k246 M else (fX6_isLetter M (M.1 10 5)).bind (fun q119 => (if q119 = 0 then k246 M else nx (sI M 10 5 ((M.1 10 5) + (1 : Int32))) (fun M132 => fX6_next_103 k246 n M132))))
def fX6_next_159 (k246 : Mem → Option Mem) : Nat → Mem → Option Mem
  | 0, _ => none
  | n + 1, M => (if (M.1 10 1) ≤ (M.1 10 5) then k246 M else (fX6_isDigit M (M.1 10 5)).bind (fun q175 => (if q175 = 0 then k246 M else (if inb (M.1 10 5) 600 = true then nx (sI M 10 6 (imin (1000 : Int32) ((((M.1 10 6) * (10 : Int32)) + (M.1 11 (ix (M.1 10 5)))) - (48 : Int32)))) (fun M208 => nx (sI M208 10 5 ((M208.1 10 5) + (1 : Int32))) (fun M218 => fX6_next_159 k246 n M218)) else none))))
def fX6_next_246 (M : Mem) : Option Mem := some M
def fX6_next_60 (M : Mem) : Option Mem := nx (sI M 10 5 (M.1 10 4)) (fun M65 => (if (M65.1 10 4) < (M65.1 10 1) then (fX6_isLetter M65 (M65.1 10 4)).bind (fun q92 => (if q92 = 0 then (fX6_isDigit M65 (M65.1 10 4)).bind (fun q143 => (if q143 = 0 then (fX6_signAt M65 (M65.1 10 4)).bind (fun q230 => nx (sI M65 10 3 q230) (fun M233 => nx (sI M233 10 5 ((M233.1 10 5) + (1 : Int32))) (fun M243 => fX6_next_246 M243))) else nx (sI M65 10 3 (3 : Int32)) (fun M151 => nx (sI M151 10 6 (0 : Int32)) (fun M156 => fX6_next_159 fX6_next_246 FU M156)))) else nx (sI M65 10 3 (2 : Int32)) (fun M100 => fX6_next_103 fX6_next_246 FU M100))) else nx (sI M65 10 3 (0 : Int32)) (fun M81 => fX6_next_246 M81)))
def fX6_next (M : Mem) : Option Mem := nx (sI M 10 4 (M.1 10 5)) (fun M5 => fX6_next_8 fX6_next_60 FU M5)
set_option maxHeartbeats 4000000 in
set_option maxRecDepth 100000 in
theorem wX6_next_47 {M1 : Mem} {k8 : Mem → Option Mem} {k60 : Mem → Option Mem} (X : CX E p s m args c meth cX6_next 1 none RX6) (hk8 : ∀ {M : Mem} {H : Heap} {locs : List Loc} {ls : Array Slot}, k8 M = some M1 → Rl E (sh_ b) (nn b) s.heap M H locs → lv_has ls 1 [(0, .ref (eB E + 10))] → W p l e (rm 2 0 0) s m args below meth c H locs 0 0 (MQ below (qq E none (sh_ b) (nn b) M1) args s 0 0 (fr E)) (F0 m 8 ls [])) (hk60 : ∀ {M : Mem} {H : Heap} {locs : List Loc} {ls : Array Slot}, k60 M = some M1 → Rl E (sh_ b) (nn b) s.heap M H locs → lv_has ls 1 [(0, .ref (eB E + 10))] → W p l e (rm 2 0 0) s m args below meth c H locs 0 0 (MQ below (qq E none (sh_ b) (nn b) M1) args s 0 0 (fr E)) (F0 m 60 ls [])) : ∀ {M : Mem} {H : Heap} {locs : List Loc} {ls : Array Slot}, fX6_next_47 k8 k60 M = some M1 → Rl E (sh_ b) (nn b) s.heap M H locs → lv_has ls 1 [(0, .ref (eB E + 10))] → W p l e (rm 2 0 0) s m args below meth c H locs 0 0 (MQ below (qq E none (sh_ b) (nn b) M1) args s 0 0 (fr E)) (F0 m 47 ls []) := by
  obtain ⟨hx, hb, hr, hml, hown, hts, hK, hN, hO, hlk, hbs⟩ := id X
  intro M H locs ls hf hR hl
  unfold fX6_next_47 at hf
  refine lv_aload_n hx hb dX6_next_47 rfl (lv_at hl 0 rfl) ?_
  refine lv_dup hx hb dX6_next_48 rfl ?_
  refine x_get hx hb hown hts hK hR kX6 (z_10 b) (j := 4) (by decide) fl_X6_55 (v := .int (M.1 10 4)) rfl dX6_next_49 ?_
  refine lv_iconst (v := 1) hx hb dX6_next_52 (by decide) ?_
  refine lv_iadd hx hb dX6_next_53 ?_
  refine x_puti hx hb hown hts hK hR kX6 (z_10 b) (j := 4) (by decide) fl_X6_55 rfl rfl rfl rfl dX6_next_54 (fun H locs hR => ?_)
  obtain ⟨M54, e54⟩ : ∃ y : Mem, y = (sI M 10 4 ((M.1 10 4) + (1 : Int32))) := ⟨_, rfl⟩
  have hf := nx_at e54 hf
  have hR : Rl E (sh_ b) (nn b) s.heap M54 H locs := by rw [e54]; exact hR
  refine lv_goto (tgt := 8) hx hb dX6_next_57 (by decide) ?_
  exact hk8 hf hR hl
set_option maxHeartbeats 4000000 in
set_option maxRecDepth 100000 in
theorem wX6_next_8 {M1 : Mem} {k60 : Mem → Option Mem} (X : CX E p s m args c meth cX6_next 1 none RX6) (hk60 : ∀ {M : Mem} {H : Heap} {locs : List Loc} {ls : Array Slot}, k60 M = some M1 → Rl E (sh_ b) (nn b) s.heap M H locs → lv_has ls 1 [(0, .ref (eB E + 10))] → W p l e (rm 2 0 0) s m args below meth c H locs 0 0 (MQ below (qq E none (sh_ b) (nn b) M1) args s 0 0 (fr E)) (F0 m 60 ls [])) : ∀ (n : Nat) {M : Mem} {H : Heap} {locs : List Loc} {ls : Array Slot}, fX6_next_8 k60 n M = some M1 → Rl E (sh_ b) (nn b) s.heap M H locs → lv_has ls 1 [(0, .ref (eB E + 10))] → W p l e (rm 2 0 0) s m args below meth c H locs 0 0 (MQ below (qq E none (sh_ b) (nn b) M1) args s 0 0 (fr E)) (F0 m 8 ls []) := by
  obtain ⟨hx, hb, hr, hml, hown, hts, hK, hN, hO, hlk, hbs⟩ := id X
  intro n
  induction n with
  | zero =>
    intro M H locs ls hf hR hl
    exact absurd (show none = some _ from hf) (fun h => by cases h)
  | succ n ih =>
    intro M H locs ls hf hR hl
    rw [fX6_next_8] at hf
    refine lv_aload_n hx hb dX6_next_8 rfl (lv_at hl 0 rfl) ?_
    refine x_get hx hb hown hts hK hR kX6 (z_10 b) (j := 4) (by decide) fl_X6_55 (v := .int (M.1 10 4)) rfl dX6_next_9 ?_
    refine lv_aload_n hx hb dX6_next_12 rfl (lv_at hl 0 rfl) ?_
    refine x_get hx hb hown hts hK hR kX6 (z_10 b) (j := 1) (by decide) fl_X6_22 (v := .int (M.1 10 1)) rfl dX6_next_13 ?_
    refine lv_icmp_ge (tgt := 60) hx hb dX6_next_16 (by decide) (fun q16 => ?_) (fun q16 => ?_)
    · have hf := (br_if hf).1 q16
      exact hk60 hf hR hl
    · have hf := (br_if hf).2 q16
      refine lv_aload_n hx hb dX6_next_19 rfl (lv_at hl 0 rfl) ?_
      refine x_get hx hb hown hts hK hR kX6 (z_10 b) (j := 0) (by decide) fl_X6_9 (v := .ref (eB E + 11)) rfl dX6_next_20 ?_
      refine lv_aload_n hx hb dX6_next_23 rfl (lv_at hl 0 rfl) ?_
      refine x_get hx hb hown hts hK hR kX6 (z_10 b) (j := 4) (by decide) fl_X6_55 (v := .int (M.1 10 4)) rfl dX6_next_24 ?_
      obtain ⟨g27, hf⟩ := br_g hf
      refine x_bald hx hb hK hR (z_11 b) g27 dX6_next_27 ?_
      refine lv_bipush (v := 32) hx hb dX6_next_28 (by decide) ?_
      refine lv_icmp_eq (tgt := 47) hx hb dX6_next_30 (by decide) (fun q30 => ?_) (fun q30 => ?_)
      · have hf := (br_if hf).1 q30
        exact wX6_next_47 X (fun hf hR hl => ih hf hR hl) (fun hf hR hl => hk60 hf hR hl) hf hR hl
      · have hf := (br_if hf).2 q30
        refine lv_aload_n hx hb dX6_next_33 rfl (lv_at hl 0 rfl) ?_
        refine x_get hx hb hown hts hK hR kX6 (z_10 b) (j := 0) (by decide) fl_X6_9 (v := .ref (eB E + 11)) rfl dX6_next_34 ?_
        refine lv_aload_n hx hb dX6_next_37 rfl (lv_at hl 0 rfl) ?_
        refine x_get hx hb hown hts hK hR kX6 (z_10 b) (j := 4) (by decide) fl_X6_55 (v := .int (M.1 10 4)) rfl dX6_next_38 ?_
        obtain ⟨g41, hf⟩ := br_g hf
        refine x_bald hx hb hK hR (z_11 b) g41 dX6_next_41 ?_
        refine lv_bipush (v := 10) hx hb dX6_next_42 (by decide) ?_
        refine lv_icmp_ne (tgt := 60) hx hb dX6_next_44 (by decide) (fun q44 => ?_) (fun q44 => ?_)
        · have hf := (br_if hf).2 q44
          exact hk60 hf hR hl
        · have hf := (br_if hf).1 q44
          exact wX6_next_47 X (fun hf hR hl => ih hf hR hl) (fun hf hR hl => hk60 hf hR hl) hf hR hl
set_option maxHeartbeats 4000000 in
set_option maxRecDepth 100000 in
theorem wX6_next_103 {M1 : Mem} {k246 : Mem → Option Mem} (X : CX E p s m args c meth cX6_next 1 none RX6) (hk246 : ∀ {M : Mem} {H : Heap} {locs : List Loc} {ls : Array Slot}, k246 M = some M1 → Rl E (sh_ b) (nn b) s.heap M H locs → lv_has ls 1 [] → W p l e (rm 2 0 0) s m args below meth c H locs 0 0 (MQ below (qq E none (sh_ b) (nn b) M1) args s 0 0 (fr E)) (F0 m 246 ls [])) : ∀ (n : Nat) {M : Mem} {H : Heap} {locs : List Loc} {ls : Array Slot}, fX6_next_103 k246 n M = some M1 → Rl E (sh_ b) (nn b) s.heap M H locs → lv_has ls 1 [(0, .ref (eB E + 10))] → W p l e (rm 2 0 0) s m args below meth c H locs 0 0 (MQ below (qq E none (sh_ b) (nn b) M1) args s 0 0 (fr E)) (F0 m 103 ls []) := by
  obtain ⟨hx, hb, hr, hml, hown, hts, hK, hN, hO, hlk, hbs⟩ := id X
  intro n
  induction n with
  | zero =>
    intro M H locs ls hf hR hl
    exact absurd (show none = some _ from hf) (fun h => by cases h)
  | succ n ih =>
    intro M H locs ls hf hR hl
    rw [fX6_next_103] at hf
    refine lv_aload_n hx hb dX6_next_103 rfl (lv_at hl 0 rfl) ?_
    refine x_get hx hb hown hts hK hR kX6 (z_10 b) (j := 5) (by decide) fl_X6_42 (v := .int (M.1 10 5)) rfl dX6_next_104 ?_
    refine lv_aload_n hx hb dX6_next_107 rfl (lv_at hl 0 rfl) ?_
    refine x_get hx hb hown hts hK hR kX6 (z_10 b) (j := 1) (by decide) fl_X6_22 (v := .int (M.1 10 1)) rfl dX6_next_108 ?_
    refine lv_icmp_ge (tgt := 246) hx hb dX6_next_111 (by decide) (fun q111 => ?_) (fun q111 => ?_)
    · have hf := (br_if hf).1 q111
      exact hk246 hf hR (lv_sub hl [] rfl)
    · have hf := (br_if hf).2 q111
      refine lv_aload_n hx hb dX6_next_114 rfl (lv_at hl 0 rfl) ?_
      refine lv_aload_n hx hb dX6_next_115 rfl (lv_at hl 0 rfl) ?_
      refine x_get hx hb hown hts hK hR kX6 (z_10 b) (j := 5) (by decide) fl_X6_42 (v := .int (M.1 10 5)) rfl dX6_next_116 ?_
      obtain ⟨q119, c119, hf⟩ := br_b hf
      refine x_callV (k := 10) (As := [.int (M.1 10 5)]) (rest := []) (st1 := [.int q119]) X hR (ctX6_isLetter c119) ml_X6_148 im_X6_isLetter se_X6_isLetter in_X6 co_X6_isLetter yo_X6_isLetter rfl kX6 (z_10 b) (rm_ok (by decide) (by decide)) rfl hl.1 rfl rfl (Nat.le_of_ble_eq_true rfl) dX6_next_119 ⟨Nat.zero_le _, Nat.zero_le _⟩ (fun H locs hR => ?_)
      refine lv_if_eq (tgt := 246) hx hb dX6_next_122 (by decide) (fun q122 => ?_) (fun q122 => ?_)
      · have hf := (br_if hf).1 q122
        exact hk246 hf hR (lv_sub hl [] rfl)
      · have hf := (br_if hf).2 q122
        refine lv_aload_n hx hb dX6_next_125 rfl (lv_at hl 0 rfl) ?_
        refine lv_dup hx hb dX6_next_126 rfl ?_
        refine x_get hx hb hown hts hK hR kX6 (z_10 b) (j := 5) (by decide) fl_X6_42 (v := .int (M.1 10 5)) rfl dX6_next_127 ?_
        refine lv_iconst (v := 1) hx hb dX6_next_130 (by decide) ?_
        refine lv_iadd hx hb dX6_next_131 ?_
        refine x_puti hx hb hown hts hK hR kX6 (z_10 b) (j := 5) (by decide) fl_X6_42 rfl rfl rfl rfl dX6_next_132 (fun H locs hR => ?_)
        obtain ⟨M132, e132⟩ : ∃ y : Mem, y = (sI M 10 5 ((M.1 10 5) + (1 : Int32))) := ⟨_, rfl⟩
        have hf := nx_at e132 hf
        have hR : Rl E (sh_ b) (nn b) s.heap M132 H locs := by rw [e132]; exact hR
        refine lv_goto (tgt := 103) hx hb dX6_next_135 (by decide) ?_
        exact ih hf hR hl
set_option maxHeartbeats 4000000 in
set_option maxRecDepth 100000 in
theorem wX6_next_159 {M1 : Mem} {k246 : Mem → Option Mem} (X : CX E p s m args c meth cX6_next 1 none RX6) (hk246 : ∀ {M : Mem} {H : Heap} {locs : List Loc} {ls : Array Slot}, k246 M = some M1 → Rl E (sh_ b) (nn b) s.heap M H locs → lv_has ls 1 [] → W p l e (rm 2 0 0) s m args below meth c H locs 0 0 (MQ below (qq E none (sh_ b) (nn b) M1) args s 0 0 (fr E)) (F0 m 246 ls [])) : ∀ (n : Nat) {M : Mem} {H : Heap} {locs : List Loc} {ls : Array Slot}, fX6_next_159 k246 n M = some M1 → Rl E (sh_ b) (nn b) s.heap M H locs → lv_has ls 1 [(0, .ref (eB E + 10))] → W p l e (rm 2 0 0) s m args below meth c H locs 0 0 (MQ below (qq E none (sh_ b) (nn b) M1) args s 0 0 (fr E)) (F0 m 159 ls []) := by
  obtain ⟨hx, hb, hr, hml, hown, hts, hK, hN, hO, hlk, hbs⟩ := id X
  intro n
  induction n with
  | zero =>
    intro M H locs ls hf hR hl
    exact absurd (show none = some _ from hf) (fun h => by cases h)
  | succ n ih =>
    intro M H locs ls hf hR hl
    rw [fX6_next_159] at hf
    refine lv_aload_n hx hb dX6_next_159 rfl (lv_at hl 0 rfl) ?_
    refine x_get hx hb hown hts hK hR kX6 (z_10 b) (j := 5) (by decide) fl_X6_42 (v := .int (M.1 10 5)) rfl dX6_next_160 ?_
    refine lv_aload_n hx hb dX6_next_163 rfl (lv_at hl 0 rfl) ?_
    refine x_get hx hb hown hts hK hR kX6 (z_10 b) (j := 1) (by decide) fl_X6_22 (v := .int (M.1 10 1)) rfl dX6_next_164 ?_
    refine lv_icmp_ge (tgt := 246) hx hb dX6_next_167 (by decide) (fun q167 => ?_) (fun q167 => ?_)
    · have hf := (br_if hf).1 q167
      exact hk246 hf hR (lv_sub hl [] rfl)
    · have hf := (br_if hf).2 q167
      refine lv_aload_n hx hb dX6_next_170 rfl (lv_at hl 0 rfl) ?_
      refine lv_aload_n hx hb dX6_next_171 rfl (lv_at hl 0 rfl) ?_
      refine x_get hx hb hown hts hK hR kX6 (z_10 b) (j := 5) (by decide) fl_X6_42 (v := .int (M.1 10 5)) rfl dX6_next_172 ?_
      obtain ⟨q175, c175, hf⟩ := br_b hf
      refine x_callV (k := 10) (As := [.int (M.1 10 5)]) (rest := []) (st1 := [.int q175]) X hR (ctX6_isDigit c175) ml_X6_152 im_X6_isDigit se_X6_isDigit in_X6 co_X6_isDigit yo_X6_isDigit rfl kX6 (z_10 b) (rm_ok (by decide) (by decide)) rfl hl.1 rfl rfl (Nat.le_of_ble_eq_true rfl) dX6_next_175 ⟨Nat.zero_le _, Nat.zero_le _⟩ (fun H locs hR => ?_)
      refine lv_if_eq (tgt := 246) hx hb dX6_next_178 (by decide) (fun q178 => ?_) (fun q178 => ?_)
      · have hf := (br_if hf).1 q178
        exact hk246 hf hR (lv_sub hl [] rfl)
      · have hf := (br_if hf).2 q178
        refine lv_aload_n hx hb dX6_next_181 rfl (lv_at hl 0 rfl) ?_
        refine lv_sipush (v := 1000) hx hb dX6_next_182 (by decide) ?_
        refine lv_aload_n hx hb dX6_next_185 rfl (lv_at hl 0 rfl) ?_
        refine x_get hx hb hown hts hK hR kX6 (z_10 b) (j := 6) (by decide) fl_X6_105 (v := .int (M.1 10 6)) rfl dX6_next_186 ?_
        refine lv_bipush (v := 10) hx hb dX6_next_189 (by decide) ?_
        refine lv_imul hx hb dX6_next_191 ?_
        refine lv_aload_n hx hb dX6_next_192 rfl (lv_at hl 0 rfl) ?_
        refine x_get hx hb hown hts hK hR kX6 (z_10 b) (j := 0) (by decide) fl_X6_9 (v := .ref (eB E + 11)) rfl dX6_next_193 ?_
        refine lv_aload_n hx hb dX6_next_196 rfl (lv_at hl 0 rfl) ?_
        refine x_get hx hb hown hts hK hR kX6 (z_10 b) (j := 5) (by decide) fl_X6_42 (v := .int (M.1 10 5)) rfl dX6_next_197 ?_
        obtain ⟨g200, hf⟩ := br_g hf
        refine x_bald hx hb hK hR (z_11 b) g200 dX6_next_200 ?_
        refine lv_iadd hx hb dX6_next_201 ?_
        refine lv_bipush (v := 48) hx hb dX6_next_202 (by decide) ?_
        refine lv_isub hx hb dX6_next_204 ?_
        refine va_mmin hx hb (by rw [hml]; exact hl.1.symm) hown (hts _ ml_X6_155) (hts _ st_min) (hts _ in_J9) (hts _ co_min) (by decide) (Nat.le_of_ble_eq_true rfl) (Nat.zero_le _) (Nat.zero_le _) dX6_next_205 ?_
        refine W.eq (g2 := F0 m 208 ls [.int (imin (1000 : Int32) ((((M.1 10 6) * (10 : Int32)) + (M.1 11 (ix (M.1 10 5)))) - (48 : Int32))), .ref (eB E + 10)]) rfl ?_
        refine x_puti hx hb hown hts hK hR kX6 (z_10 b) (j := 6) (by decide) fl_X6_105 rfl rfl rfl rfl dX6_next_208 (fun H locs hR => ?_)
        obtain ⟨M208, e208⟩ : ∃ y : Mem, y = (sI M 10 6 (imin (1000 : Int32) ((((M.1 10 6) * (10 : Int32)) + (M.1 11 (ix (M.1 10 5)))) - (48 : Int32)))) := ⟨_, rfl⟩
        have hf := nx_at e208 hf
        have hR : Rl E (sh_ b) (nn b) s.heap M208 H locs := by rw [e208]; exact hR
        refine lv_aload_n hx hb dX6_next_211 rfl (lv_at hl 0 rfl) ?_
        refine lv_dup hx hb dX6_next_212 rfl ?_
        refine x_get hx hb hown hts hK hR kX6 (z_10 b) (j := 5) (by decide) fl_X6_42 (v := .int (M208.1 10 5)) rfl dX6_next_213 ?_
        refine lv_iconst (v := 1) hx hb dX6_next_216 (by decide) ?_
        refine lv_iadd hx hb dX6_next_217 ?_
        refine x_puti hx hb hown hts hK hR kX6 (z_10 b) (j := 5) (by decide) fl_X6_42 rfl rfl rfl rfl dX6_next_218 (fun H locs hR => ?_)
        obtain ⟨M218, e218⟩ : ∃ y : Mem, y = (sI M208 10 5 ((M208.1 10 5) + (1 : Int32))) := ⟨_, rfl⟩
        have hf := nx_at e218 hf
        have hR : Rl E (sh_ b) (nn b) s.heap M218 H locs := by rw [e218]; exact hR
        refine lv_goto (tgt := 159) hx hb dX6_next_221 (by decide) ?_
        exact ih hf hR hl
set_option maxHeartbeats 4000000 in
set_option maxRecDepth 100000 in
theorem wX6_next_246 {M1 : Mem} (X : CX E p s m args c meth cX6_next 1 none RX6) : ∀ {M : Mem} {H : Heap} {locs : List Loc} {ls : Array Slot}, fX6_next_246 M = some M1 → Rl E (sh_ b) (nn b) s.heap M H locs → lv_has ls 1 [] → W p l e (rm 2 0 0) s m args below meth c H locs 0 0 (MQ below (qq E none (sh_ b) (nn b) M1) args s 0 0 (fr E)) (F0 m 246 ls []) := by
  obtain ⟨hx, hb, hr, hml, hown, hts, hK, hN, hO, hlk, hbs⟩ := id X
  intro M H locs ls hf hR hl
  unfold fX6_next_246 at hf
  cases hf
  exact x_vret hx hb hr hlk hR dX6_next_246
set_option maxHeartbeats 4000000 in
set_option maxRecDepth 100000 in
theorem wX6_next_60 {M1 : Mem} (X : CX E p s m args c meth cX6_next 1 none RX6) : ∀ {M : Mem} {H : Heap} {locs : List Loc} {ls : Array Slot}, fX6_next_60 M = some M1 → Rl E (sh_ b) (nn b) s.heap M H locs → lv_has ls 1 [(0, .ref (eB E + 10))] → W p l e (rm 2 0 0) s m args below meth c H locs 0 0 (MQ below (qq E none (sh_ b) (nn b) M1) args s 0 0 (fr E)) (F0 m 60 ls []) := by
  obtain ⟨hx, hb, hr, hml, hown, hts, hK, hN, hO, hlk, hbs⟩ := id X
  intro M H locs ls hf hR hl
  unfold fX6_next_60 at hf
  refine lv_aload_n hx hb dX6_next_60 rfl (lv_at hl 0 rfl) ?_
  refine lv_aload_n hx hb dX6_next_61 rfl (lv_at hl 0 rfl) ?_
  refine x_get hx hb hown hts hK hR kX6 (z_10 b) (j := 4) (by decide) fl_X6_55 (v := .int (M.1 10 4)) rfl dX6_next_62 ?_
  refine x_puti hx hb hown hts hK hR kX6 (z_10 b) (j := 5) (by decide) fl_X6_42 rfl rfl rfl rfl dX6_next_65 (fun H locs hR => ?_)
  obtain ⟨M65, e65⟩ : ∃ y : Mem, y = (sI M 10 5 (M.1 10 4)) := ⟨_, rfl⟩
  have hf := nx_at e65 hf
  have hR : Rl E (sh_ b) (nn b) s.heap M65 H locs := by rw [e65]; exact hR
  refine lv_aload_n hx hb dX6_next_68 rfl (lv_at hl 0 rfl) ?_
  refine x_get hx hb hown hts hK hR kX6 (z_10 b) (j := 4) (by decide) fl_X6_55 (v := .int (M65.1 10 4)) rfl dX6_next_69 ?_
  refine lv_aload_n hx hb dX6_next_72 rfl (lv_at hl 0 rfl) ?_
  refine x_get hx hb hown hts hK hR kX6 (z_10 b) (j := 1) (by decide) fl_X6_22 (v := .int (M65.1 10 1)) rfl dX6_next_73 ?_
  refine lv_icmp_lt (tgt := 87) hx hb dX6_next_76 (by decide) (fun q76 => ?_) (fun q76 => ?_)
  · have hf := (br_if hf).1 q76
    refine lv_aload_n hx hb dX6_next_87 rfl (lv_at hl 0 rfl) ?_
    refine lv_aload_n hx hb dX6_next_88 rfl (lv_at hl 0 rfl) ?_
    refine x_get hx hb hown hts hK hR kX6 (z_10 b) (j := 4) (by decide) fl_X6_55 (v := .int (M65.1 10 4)) rfl dX6_next_89 ?_
    obtain ⟨q92, c92, hf⟩ := br_b hf
    refine x_callV (k := 10) (As := [.int (M65.1 10 4)]) (rest := []) (st1 := [.int q92]) X hR (ctX6_isLetter c92) ml_X6_148 im_X6_isLetter se_X6_isLetter in_X6 co_X6_isLetter yo_X6_isLetter rfl kX6 (z_10 b) (rm_ok (by decide) (by decide)) rfl hl.1 rfl rfl (Nat.le_of_ble_eq_true rfl) dX6_next_92 ⟨Nat.zero_le _, Nat.zero_le _⟩ (fun H locs hR => ?_)
    refine lv_if_eq (tgt := 138) hx hb dX6_next_95 (by decide) (fun q95 => ?_) (fun q95 => ?_)
    · have hf := (br_if hf).1 q95
      refine lv_aload_n hx hb dX6_next_138 rfl (lv_at hl 0 rfl) ?_
      refine lv_aload_n hx hb dX6_next_139 rfl (lv_at hl 0 rfl) ?_
      refine x_get hx hb hown hts hK hR kX6 (z_10 b) (j := 4) (by decide) fl_X6_55 (v := .int (M65.1 10 4)) rfl dX6_next_140 ?_
      obtain ⟨q143, c143, hf⟩ := br_b hf
      refine x_callV (k := 10) (As := [.int (M65.1 10 4)]) (rest := []) (st1 := [.int q143]) X hR (ctX6_isDigit c143) ml_X6_152 im_X6_isDigit se_X6_isDigit in_X6 co_X6_isDigit yo_X6_isDigit rfl kX6 (z_10 b) (rm_ok (by decide) (by decide)) rfl hl.1 rfl rfl (Nat.le_of_ble_eq_true rfl) dX6_next_143 ⟨Nat.zero_le _, Nat.zero_le _⟩ (fun H locs hR => ?_)
      refine lv_if_eq (tgt := 224) hx hb dX6_next_146 (by decide) (fun q146 => ?_) (fun q146 => ?_)
      · have hf := (br_if hf).1 q146
        refine lv_aload_n hx hb dX6_next_224 rfl (lv_at hl 0 rfl) ?_
        refine lv_aload_n hx hb dX6_next_225 rfl (lv_at hl 0 rfl) ?_
        refine lv_aload_n hx hb dX6_next_226 rfl (lv_at hl 0 rfl) ?_
        refine x_get hx hb hown hts hK hR kX6 (z_10 b) (j := 4) (by decide) fl_X6_55 (v := .int (M65.1 10 4)) rfl dX6_next_227 ?_
        obtain ⟨q230, c230, hf⟩ := br_b hf
        refine x_callV (k := 10) (As := [.int (M65.1 10 4)]) (rest := [.ref (eB E + 10)]) (st1 := [.int q230, .ref (eB E + 10)]) X hR (ctX6_signAt c230) ml_X6_161 im_X6_signAt se_X6_signAt in_X6 co_X6_signAt yo_X6_signAt rfl kX6 (z_10 b) (rm_ok (by decide) (by decide)) rfl hl.1 rfl rfl (Nat.le_of_ble_eq_true rfl) dX6_next_230 ⟨Nat.zero_le _, Nat.zero_le _⟩ (fun H locs hR => ?_)
        refine x_puti hx hb hown hts hK hR kX6 (z_10 b) (j := 3) (by decide) fl_X6_48 rfl rfl rfl rfl dX6_next_233 (fun H locs hR => ?_)
        obtain ⟨M233, e233⟩ : ∃ y : Mem, y = (sI M65 10 3 q230) := ⟨_, rfl⟩
        have hf := nx_at e233 hf
        have hR : Rl E (sh_ b) (nn b) s.heap M233 H locs := by rw [e233]; exact hR
        refine lv_aload_n hx hb dX6_next_236 rfl (lv_at hl 0 rfl) ?_
        refine lv_dup hx hb dX6_next_237 rfl ?_
        refine x_get hx hb hown hts hK hR kX6 (z_10 b) (j := 5) (by decide) fl_X6_42 (v := .int (M233.1 10 5)) rfl dX6_next_238 ?_
        refine lv_iconst (v := 1) hx hb dX6_next_241 (by decide) ?_
        refine lv_iadd hx hb dX6_next_242 ?_
        refine x_puti hx hb hown hts hK hR kX6 (z_10 b) (j := 5) (by decide) fl_X6_42 rfl rfl rfl rfl dX6_next_243 (fun H locs hR => ?_)
        obtain ⟨M243, e243⟩ : ∃ y : Mem, y = (sI M233 10 5 ((M233.1 10 5) + (1 : Int32))) := ⟨_, rfl⟩
        have hf := nx_at e243 hf
        have hR : Rl E (sh_ b) (nn b) s.heap M243 H locs := by rw [e243]; exact hR
        exact wX6_next_246 X hf hR (lv_sub hl [] rfl)
      · have hf := (br_if hf).2 q146
        refine lv_aload_n hx hb dX6_next_149 rfl (lv_at hl 0 rfl) ?_
        refine lv_iconst (v := 3) hx hb dX6_next_150 (by decide) ?_
        refine x_puti hx hb hown hts hK hR kX6 (z_10 b) (j := 3) (by decide) fl_X6_48 rfl rfl rfl rfl dX6_next_151 (fun H locs hR => ?_)
        obtain ⟨M151, e151⟩ : ∃ y : Mem, y = (sI M65 10 3 (3 : Int32)) := ⟨_, rfl⟩
        have hf := nx_at e151 hf
        have hR : Rl E (sh_ b) (nn b) s.heap M151 H locs := by rw [e151]; exact hR
        refine lv_aload_n hx hb dX6_next_154 rfl (lv_at hl 0 rfl) ?_
        refine lv_iconst (v := 0) hx hb dX6_next_155 (by decide) ?_
        refine x_puti hx hb hown hts hK hR kX6 (z_10 b) (j := 6) (by decide) fl_X6_105 rfl rfl rfl rfl dX6_next_156 (fun H locs hR => ?_)
        obtain ⟨M156, e156⟩ : ∃ y : Mem, y = (sI M151 10 6 (0 : Int32)) := ⟨_, rfl⟩
        have hf := nx_at e156 hf
        have hR : Rl E (sh_ b) (nn b) s.heap M156 H locs := by rw [e156]; exact hR
        exact wX6_next_159 X (fun hf hR hl => wX6_next_246 X hf hR hl) FU hf hR hl
    · have hf := (br_if hf).2 q95
      refine lv_aload_n hx hb dX6_next_98 rfl (lv_at hl 0 rfl) ?_
      refine lv_iconst (v := 2) hx hb dX6_next_99 (by decide) ?_
      refine x_puti hx hb hown hts hK hR kX6 (z_10 b) (j := 3) (by decide) fl_X6_48 rfl rfl rfl rfl dX6_next_100 (fun H locs hR => ?_)
      obtain ⟨M100, e100⟩ : ∃ y : Mem, y = (sI M65 10 3 (2 : Int32)) := ⟨_, rfl⟩
      have hf := nx_at e100 hf
      have hR : Rl E (sh_ b) (nn b) s.heap M100 H locs := by rw [e100]; exact hR
      exact wX6_next_103 X (fun hf hR hl => wX6_next_246 X hf hR hl) FU hf hR hl
  · have hf := (br_if hf).2 q76
    refine lv_aload_n hx hb dX6_next_79 rfl (lv_at hl 0 rfl) ?_
    refine lv_iconst (v := 0) hx hb dX6_next_80 (by decide) ?_
    refine x_puti hx hb hown hts hK hR kX6 (z_10 b) (j := 3) (by decide) fl_X6_48 rfl rfl rfl rfl dX6_next_81 (fun H locs hR => ?_)
    obtain ⟨M81, e81⟩ : ∃ y : Mem, y = (sI M65 10 3 (0 : Int32)) := ⟨_, rfl⟩
    have hf := nx_at e81 hf
    have hR : Rl E (sh_ b) (nn b) s.heap M81 H locs := by rw [e81]; exact hR
    refine lv_goto (tgt := 246) hx hb dX6_next_84 (by decide) ?_
    exact wX6_next_246 X hf hR (lv_sub hl [] rfl)
set_option maxHeartbeats 4000000 in
set_option maxRecDepth 100000 in
theorem wX6_next_0 {M1 : Mem} (X : CX E p s m args c meth cX6_next 1 none RX6) : ∀ {M : Mem} {H : Heap} {locs : List Loc} {ls : Array Slot}, fX6_next M = some M1 → Rl E (sh_ b) (nn b) s.heap M H locs → lv_has ls 1 [(0, .ref (eB E + 10))] → W p l e (rm 2 0 0) s m args below meth c H locs 0 0 (MQ below (qq E none (sh_ b) (nn b) M1) args s 0 0 (fr E)) (F0 m 0 ls []) := by
  obtain ⟨hx, hb, hr, hml, hown, hts, hK, hN, hO, hlk, hbs⟩ := id X
  intro M H locs ls hf hR hl
  unfold fX6_next at hf
  refine lv_aload_n hx hb dX6_next_0 rfl (lv_at hl 0 rfl) ?_
  refine lv_aload_n hx hb dX6_next_1 rfl (lv_at hl 0 rfl) ?_
  refine x_get hx hb hown hts hK hR kX6 (z_10 b) (j := 5) (by decide) fl_X6_42 (v := .int (M.1 10 5)) rfl dX6_next_2 ?_
  refine x_puti hx hb hown hts hK hR kX6 (z_10 b) (j := 4) (by decide) fl_X6_55 rfl rfl rfl rfl dX6_next_5 (fun H locs hR => ?_)
  obtain ⟨M5, e5⟩ : ∃ y : Mem, y = (sI M 10 4 (M.1 10 5)) := ⟨_, rfl⟩
  have hf := nx_at e5 hf
  have hR : Rl E (sh_ b) (nn b) s.heap M5 H locs := by rw [e5]; exact hR
  exact wX6_next_8 X (fun hf hR hl => wX6_next_60 X hf hR hl) FU hf hR hl
theorem ctX6_next {l : Launch} {E : Ge} {b : Bool} {M : Mem} {M1 : Mem} (h : fX6_next M = some M1) : CT l E yX6_next cX6_next 1 none 2 0 0 [.ref (eB E + 10)] none (sh_ b) (nn b) M (sh_ b) (nn b) M1 := by
  refine met_of (by decide) (Nat.le_of_ble_eq_true rfl) ?_
  intro p e s m args below meth c X _ hR ls hl
  exact wX6_next_0 X h hR hl
def fX6_isWord_24 (M : Mem) (w : Nat) : Option Int32 := some (0 : Int32)
def fX6_isWord_28 (M : Mem) (w : Nat) (k55 : Option Int32) (k63 : Option Int32) : Nat → Int32 → Option Int32
  | 0, _ => none
  | n + 1, x2 => (fJ0_length_8abf5 M w).bind (fun q30 => (if q30 ≤ x2 then k63 else (if inb ((M.1 10 4) + x2) 600 = true then (fJ0_charAt_5068e M w x2).bind (fun q49 => (if (M.1 11 (ix ((M.1 10 4) + x2))) = q49 then nx (x2 + (1 : Int32)) (fun v57 => fX6_isWord_28 M w k55 k63 n v57) else k55)) else none)))
def fX6_isWord_55 (M : Mem) (w : Nat) : Option Int32 := some (0 : Int32)
def fX6_isWord_63 (M : Mem) (w : Nat) : Option Int32 := some (1 : Int32)
def fX6_isWord (M : Mem) (w : Nat) : Option Int32 := (if (M.1 10 3) = (2 : Int32) then (fJ0_length_8abf5 M w).bind (fun q18 => (if ((M.1 10 5) - (M.1 10 4)) = q18 then fX6_isWord_28 M w (fX6_isWord_55 M w) (fX6_isWord_63 M w) FU (0 : Int32) else fX6_isWord_24 M w)) else fX6_isWord_24 M w)
set_option maxHeartbeats 4000000 in
set_option maxRecDepth 100000 in
theorem wX6_isWord_24 {r : Int32} {M : Mem} {w : Nat} (hw : w < 26) (X : CX E p s m args c meth cX6_isWord 3 (some .boolean) RX6) : ∀ {H : Heap} {locs : List Loc} {ls : Array Slot}, fX6_isWord_24 M w = some r → Rl E (sh_ b) (nn b) s.heap M H locs → lv_has ls 3 [] → W p l e (rm 7 0 0) s m args below meth c H locs 0 0 (MQ below (qq E (some (.int r)) (sh_ b) (nn b) M) args s 0 0 (fr E)) (F0 m 24 ls []) := by
  obtain ⟨hx, hb, hr, hml, hown, hts, hK, hN, hO, hlk, hbs⟩ := id X
  intro H locs ls hf hR hl
  unfold fX6_isWord_24 at hf
  refine lv_iconst (v := 0) hx hb dX6_isWord_24 (by decide) ?_
  cases hf
  exact x_zret hx hb hr hlk hR (by decide) dX6_isWord_25
set_option maxHeartbeats 4000000 in
set_option maxRecDepth 100000 in
theorem wX6_isWord_28 {r : Int32} {M : Mem} {w : Nat} (hw : w < 26) {k55 : Option Int32} {k63 : Option Int32} (X : CX E p s m args c meth cX6_isWord 3 (some .boolean) RX6) (hk55 : ∀ {H : Heap} {locs : List Loc} {ls : Array Slot}, k55 = some r → Rl E (sh_ b) (nn b) s.heap M H locs → lv_has ls 3 [] → W p l e (rm 7 0 0) s m args below meth c H locs 0 0 (MQ below (qq E (some (.int r)) (sh_ b) (nn b) M) args s 0 0 (fr E)) (F0 m 55 ls [])) (hk63 : ∀ {H : Heap} {locs : List Loc} {ls : Array Slot}, k63 = some r → Rl E (sh_ b) (nn b) s.heap M H locs → lv_has ls 3 [] → W p l e (rm 7 0 0) s m args below meth c H locs 0 0 (MQ below (qq E (some (.int r)) (sh_ b) (nn b) M) args s 0 0 (fr E)) (F0 m 63 ls [])) : ∀ (n : Nat) {x2 : Int32} {H : Heap} {locs : List Loc} {ls : Array Slot}, fX6_isWord_28 M w k55 k63 n x2 = some r → Rl E (sh_ b) (nn b) s.heap M H locs → lv_has ls 3 [(0, .ref (eB E + 10)), (1, .ref (E.2.2.1 w)), (2, .int x2)] → W p l e (rm 7 0 0) s m args below meth c H locs 0 0 (MQ below (qq E (some (.int r)) (sh_ b) (nn b) M) args s 0 0 (fr E)) (F0 m 28 ls []) := by
  obtain ⟨hx, hb, hr, hml, hown, hts, hK, hN, hO, hlk, hbs⟩ := id X
  intro n
  induction n with
  | zero =>
    intro x2 H locs ls hf hR hl
    exact absurd (show none = some _ from hf) (fun h => by cases h)
  | succ n ih =>
    intro x2 H locs ls hf hR hl
    rw [fX6_isWord_28] at hf
    refine lv_iload_n hx hb dX6_isWord_28 rfl (lv_at hl 2 rfl) ?_
    refine lv_aload_n hx hb dX6_isWord_29 rfl (lv_at hl 1 rfl) ?_
    obtain ⟨q30, c30, hf⟩ := br_b hf
    refine x_callT (As := []) (rest := [.int x2]) (st1 := [.int q30, .int x2]) X hR (ctJ0_length_8abf5 hw c30) ml_X6_139 im_J0_length_8abf5 se_J0_length_8abf5 in_J0 co_J0_length_8abf5 yo_J0_length_8abf5 rfl hw (rm_ok (by decide) (by decide)) rfl hl.1 rfl rfl (Nat.le_of_ble_eq_true rfl) dX6_isWord_30 ⟨Nat.zero_le _, Nat.zero_le _⟩ (fun H locs hR => ?_)
    refine lv_icmp_ge (tgt := 63) hx hb dX6_isWord_33 (by decide) (fun q33 => ?_) (fun q33 => ?_)
    · have hf := (br_if hf).1 q33
      exact hk63 hf hR (lv_sub hl [] rfl)
    · have hf := (br_if hf).2 q33
      refine lv_aload_n hx hb dX6_isWord_36 rfl (lv_at hl 0 rfl) ?_
      refine x_get hx hb hown hts hK hR kX6 (z_10 b) (j := 0) (by decide) fl_X6_9 (v := .ref (eB E + 11)) rfl dX6_isWord_37 ?_
      refine lv_aload_n hx hb dX6_isWord_40 rfl (lv_at hl 0 rfl) ?_
      refine x_get hx hb hown hts hK hR kX6 (z_10 b) (j := 4) (by decide) fl_X6_55 (v := .int (M.1 10 4)) rfl dX6_isWord_41 ?_
      refine lv_iload_n hx hb dX6_isWord_44 rfl (lv_at hl 2 rfl) ?_
      refine lv_iadd hx hb dX6_isWord_45 ?_
      obtain ⟨g46, hf⟩ := br_g hf
      refine x_bald hx hb hK hR (z_11 b) g46 dX6_isWord_46 ?_
      refine lv_aload_n hx hb dX6_isWord_47 rfl (lv_at hl 1 rfl) ?_
      refine lv_iload_n hx hb dX6_isWord_48 rfl (lv_at hl 2 rfl) ?_
      obtain ⟨q49, c49, hf⟩ := br_b hf
      refine x_callT (As := [.int x2]) (rest := [.int (M.1 11 (ix ((M.1 10 4) + x2)))]) (st1 := [.int q49, .int (M.1 11 (ix ((M.1 10 4) + x2)))]) X hR (ctJ0_charAt_5068e hw c49) ml_X6_144 im_J0_charAt_5068e se_J0_charAt_5068e in_J0 co_J0_charAt_5068e yo_J0_charAt_5068e rfl hw (rm_ok (by decide) (by decide)) rfl hl.1 rfl rfl (Nat.le_of_ble_eq_true rfl) dX6_isWord_49 ⟨Nat.zero_le _, Nat.zero_le _⟩ (fun H locs hR => ?_)
      refine lv_icmp_eq (tgt := 57) hx hb dX6_isWord_52 (by decide) (fun q52 => ?_) (fun q52 => ?_)
      · have hf := (br_if hf).1 q52
        obtain ⟨v57, e57⟩ : ∃ y : Int32, y = (x2 + (1 : Int32)) := ⟨_, rfl⟩
        have hf := nx_at e57 hf
        refine lv_iinc (v := v57) (lv' := [(2, .int v57), (0, .ref (eB E + 10)), (1, .ref (E.2.2.1 w))]) hx hb dX6_isWord_57 hl (k := 2) rfl (by rw [e57]; rfl) (by decide) rfl (fun ls hl => ?_)
        refine lv_goto (tgt := 28) hx hb dX6_isWord_60 (by decide) ?_
        exact ih hf hR (lv_sub hl [1, 2, 0] rfl)
      · have hf := (br_if hf).2 q52
        exact hk55 hf hR (lv_sub hl [] rfl)
set_option maxHeartbeats 4000000 in
set_option maxRecDepth 100000 in
theorem wX6_isWord_55 {r : Int32} {M : Mem} {w : Nat} (hw : w < 26) (X : CX E p s m args c meth cX6_isWord 3 (some .boolean) RX6) : ∀ {H : Heap} {locs : List Loc} {ls : Array Slot}, fX6_isWord_55 M w = some r → Rl E (sh_ b) (nn b) s.heap M H locs → lv_has ls 3 [] → W p l e (rm 7 0 0) s m args below meth c H locs 0 0 (MQ below (qq E (some (.int r)) (sh_ b) (nn b) M) args s 0 0 (fr E)) (F0 m 55 ls []) := by
  obtain ⟨hx, hb, hr, hml, hown, hts, hK, hN, hO, hlk, hbs⟩ := id X
  intro H locs ls hf hR hl
  unfold fX6_isWord_55 at hf
  refine lv_iconst (v := 0) hx hb dX6_isWord_55 (by decide) ?_
  cases hf
  exact x_zret hx hb hr hlk hR (by decide) dX6_isWord_56
set_option maxHeartbeats 4000000 in
set_option maxRecDepth 100000 in
theorem wX6_isWord_63 {r : Int32} {M : Mem} {w : Nat} (hw : w < 26) (X : CX E p s m args c meth cX6_isWord 3 (some .boolean) RX6) : ∀ {H : Heap} {locs : List Loc} {ls : Array Slot}, fX6_isWord_63 M w = some r → Rl E (sh_ b) (nn b) s.heap M H locs → lv_has ls 3 [] → W p l e (rm 7 0 0) s m args below meth c H locs 0 0 (MQ below (qq E (some (.int r)) (sh_ b) (nn b) M) args s 0 0 (fr E)) (F0 m 63 ls []) := by
  obtain ⟨hx, hb, hr, hml, hown, hts, hK, hN, hO, hlk, hbs⟩ := id X
  intro H locs ls hf hR hl
  unfold fX6_isWord_63 at hf
  refine lv_iconst (v := 1) hx hb dX6_isWord_63 (by decide) ?_
  cases hf
  exact x_zret hx hb hr hlk hR (by decide) dX6_isWord_64
set_option maxHeartbeats 4000000 in
set_option maxRecDepth 100000 in
theorem wX6_isWord_0 {r : Int32} {M : Mem} {w : Nat} (hw : w < 26) (X : CX E p s m args c meth cX6_isWord 3 (some .boolean) RX6) : ∀ {H : Heap} {locs : List Loc} {ls : Array Slot}, fX6_isWord M w = some r → Rl E (sh_ b) (nn b) s.heap M H locs → lv_has ls 3 [(0, .ref (eB E + 10)), (1, .ref (E.2.2.1 w))] → W p l e (rm 7 0 0) s m args below meth c H locs 0 0 (MQ below (qq E (some (.int r)) (sh_ b) (nn b) M) args s 0 0 (fr E)) (F0 m 0 ls []) := by
  obtain ⟨hx, hb, hr, hml, hown, hts, hK, hN, hO, hlk, hbs⟩ := id X
  intro H locs ls hf hR hl
  unfold fX6_isWord at hf
  refine lv_aload_n hx hb dX6_isWord_0 rfl (lv_at hl 0 rfl) ?_
  refine x_get hx hb hown hts hK hR kX6 (z_10 b) (j := 3) (by decide) fl_X6_48 (v := .int (M.1 10 3)) rfl dX6_isWord_1 ?_
  refine lv_iconst (v := 2) hx hb dX6_isWord_4 (by decide) ?_
  refine lv_icmp_ne (tgt := 24) hx hb dX6_isWord_5 (by decide) (fun q5 => ?_) (fun q5 => ?_)
  · have hf := (br_if hf).2 q5
    exact wX6_isWord_24 hw X hf hR (lv_sub hl [] rfl)
  · have hf := (br_if hf).1 q5
    refine lv_aload_n hx hb dX6_isWord_8 rfl (lv_at hl 0 rfl) ?_
    refine x_get hx hb hown hts hK hR kX6 (z_10 b) (j := 5) (by decide) fl_X6_42 (v := .int (M.1 10 5)) rfl dX6_isWord_9 ?_
    refine lv_aload_n hx hb dX6_isWord_12 rfl (lv_at hl 0 rfl) ?_
    refine x_get hx hb hown hts hK hR kX6 (z_10 b) (j := 4) (by decide) fl_X6_55 (v := .int (M.1 10 4)) rfl dX6_isWord_13 ?_
    refine lv_isub hx hb dX6_isWord_16 ?_
    refine lv_aload_n hx hb dX6_isWord_17 rfl (lv_at hl 1 rfl) ?_
    obtain ⟨q18, c18, hf⟩ := br_b hf
    refine x_callT (As := []) (rest := [.int ((M.1 10 5) - (M.1 10 4))]) (st1 := [.int q18, .int ((M.1 10 5) - (M.1 10 4))]) X hR (ctJ0_length_8abf5 hw c18) ml_X6_139 im_J0_length_8abf5 se_J0_length_8abf5 in_J0 co_J0_length_8abf5 yo_J0_length_8abf5 rfl hw (rm_ok (by decide) (by decide)) rfl hl.1 rfl rfl (Nat.le_of_ble_eq_true rfl) dX6_isWord_18 ⟨Nat.zero_le _, Nat.zero_le _⟩ (fun H locs hR => ?_)
    refine lv_icmp_eq (tgt := 26) hx hb dX6_isWord_21 (by decide) (fun q21 => ?_) (fun q21 => ?_)
    · have hf := (br_if hf).1 q21
      refine lv_iconst (v := 0) hx hb dX6_isWord_26 (by decide) ?_
      refine lv_istore_n (lv' := [(2, .int (0 : Int32)), (0, .ref (eB E + 10)), (1, .ref (E.2.2.1 w))]) hx hb dX6_isWord_27 rfl hl (by decide) rfl (fun ls hl => ?_)
      exact wX6_isWord_28 hw X (fun hf hR hl => wX6_isWord_55 hw X hf hR hl) (fun hf hR hl => wX6_isWord_63 hw X hf hR hl) FU hf hR (lv_sub hl [1, 2, 0] rfl)
    · have hf := (br_if hf).2 q21
      exact wX6_isWord_24 hw X hf hR (lv_sub hl [] rfl)
theorem ctX6_isWord {l : Launch} {E : Ge} {b : Bool} {M : Mem} {w : Nat} (hw : w < 26) {r : Int32} (h : fX6_isWord M w = some r) : CT l E yX6_isWord cX6_isWord 3 (some .boolean) 7 0 0 [.ref (eB E + 10), .ref (E.2.2.1 w)] (some (.int r)) (sh_ b) (nn b) M (sh_ b) (nn b) M := by
  refine met_of (by decide) (Nat.le_of_ble_eq_true rfl) ?_
  intro p e s m args below meth c X _ hR ls hl
  exact wX6_isWord_0 hw X h hR hl
def fX6_passSemicolon (M : Mem) : Option (Int32 × Mem) := (if (M.1 10 3) = (5 : Int32) then (fX6_next M).bind (fun q11 => some ((1 : Int32), q11)) else some ((0 : Int32), M))
set_option maxHeartbeats 4000000 in
set_option maxRecDepth 100000 in
theorem wX6_passSemicolon_0 {r : Int32} {M1 : Mem} (X : CX E p s m args c meth cX6_passSemicolon 1 (some .boolean) RX6) : ∀ {M : Mem} {H : Heap} {locs : List Loc} {ls : Array Slot}, fX6_passSemicolon M = some (r, M1) → Rl E (sh_ b) (nn b) s.heap M H locs → lv_has ls 1 [(0, .ref (eB E + 10))] → W p l e (rm 3 0 0) s m args below meth c H locs 0 0 (MQ below (qq E (some (.int r)) (sh_ b) (nn b) M1) args s 0 0 (fr E)) (F0 m 0 ls []) := by
  obtain ⟨hx, hb, hr, hml, hown, hts, hK, hN, hO, hlk, hbs⟩ := id X
  intro M H locs ls hf hR hl
  unfold fX6_passSemicolon at hf
  refine lv_aload_n hx hb dX6_passSemicolon_0 rfl (lv_at hl 0 rfl) ?_
  refine x_get hx hb hown hts hK hR kX6 (z_10 b) (j := 3) (by decide) fl_X6_48 (v := .int (M.1 10 3)) rfl dX6_passSemicolon_1 ?_
  refine lv_iconst (v := 5) hx hb dX6_passSemicolon_4 (by decide) ?_
  refine lv_icmp_eq (tgt := 10) hx hb dX6_passSemicolon_5 (by decide) (fun q5 => ?_) (fun q5 => ?_)
  · have hf := (br_if hf).1 q5
    refine lv_aload_n hx hb dX6_passSemicolon_10 rfl (lv_at hl 0 rfl) ?_
    obtain ⟨q11, c11, hf⟩ := br_b hf
    refine x_callV (k := 10) (As := []) (rest := []) (st1 := []) X hR (ctX6_next c11) ml_X6_45 im_X6_next se_X6_next in_X6 co_X6_next yo_X6_next rfl kX6 (z_10 b) (rm_ok (by decide) (by decide)) rfl hl.1 rfl rfl (Nat.le_of_ble_eq_true rfl) dX6_passSemicolon_11 ⟨Nat.zero_le _, Nat.zero_le _⟩ (fun H locs hR => ?_)
    refine lv_iconst (v := 1) hx hb dX6_passSemicolon_14 (by decide) ?_
    cases hf
    exact x_zret hx hb hr hlk hR (by decide) dX6_passSemicolon_15
  · have hf := (br_if hf).2 q5
    refine lv_iconst (v := 0) hx hb dX6_passSemicolon_8 (by decide) ?_
    cases hf
    exact x_zret hx hb hr hlk hR (by decide) dX6_passSemicolon_9
theorem ctX6_passSemicolon {l : Launch} {E : Ge} {b : Bool} {M : Mem} {r : Int32} {M1 : Mem} (h : fX6_passSemicolon M = some (r, M1)) : CT l E yX6_passSemicolon cX6_passSemicolon 1 (some .boolean) 3 0 0 [.ref (eB E + 10)] (some (.int r)) (sh_ b) (nn b) M (sh_ b) (nn b) M1 := by
  refine met_of (by decide) (Nat.le_of_ble_eq_true rfl) ?_
  intro p e s m args below meth c X _ hR ls hl
  exact wX6_passSemicolon_0 X h hR hl
def fX6_isNumber_29 (M : Mem) (s0 : Int32) : Option Int32 := some (s0 &&& 1)
def fX6_isNumber_28 (M : Mem) : Option Int32 := fX6_isNumber_29 M (0 : Int32)
def fX6_isNumber (M : Mem) (x1 : Int32) (x2 : Int32) : Option Int32 := (if (M.1 10 3) = (3 : Int32) then (if (M.1 10 6) < x1 then fX6_isNumber_28 M else (if x2 < (M.1 10 6) then fX6_isNumber_28 M else fX6_isNumber_29 M (1 : Int32))) else fX6_isNumber_28 M)
set_option maxHeartbeats 4000000 in
set_option maxRecDepth 100000 in
theorem wX6_isNumber_29 {r : Int32} {M : Mem} (X : CX E p s m args c meth cX6_isNumber 3 (some .boolean) RX6) : ∀ {s0 : Int32} {H : Heap} {locs : List Loc} {ls : Array Slot}, fX6_isNumber_29 M s0 = some r → Rl E (sh_ b) (nn b) s.heap M H locs → lv_has ls 3 [] → W p l e (rm 1 0 0) s m args below meth c H locs 0 0 (MQ below (qq E (some (.int r)) (sh_ b) (nn b) M) args s 0 0 (fr E)) (F0 m 29 ls [.int s0]) := by
  obtain ⟨hx, hb, hr, hml, hown, hts, hK, hN, hO, hlk, hbs⟩ := id X
  intro s0 H locs ls hf hR hl
  unfold fX6_isNumber_29 at hf
  cases hf
  exact x_zret hx hb hr hlk hR rfl dX6_isNumber_29
set_option maxHeartbeats 4000000 in
set_option maxRecDepth 100000 in
theorem wX6_isNumber_28 {r : Int32} {M : Mem} (X : CX E p s m args c meth cX6_isNumber 3 (some .boolean) RX6) : ∀ {H : Heap} {locs : List Loc} {ls : Array Slot}, fX6_isNumber_28 M = some r → Rl E (sh_ b) (nn b) s.heap M H locs → lv_has ls 3 [] → W p l e (rm 1 0 0) s m args below meth c H locs 0 0 (MQ below (qq E (some (.int r)) (sh_ b) (nn b) M) args s 0 0 (fr E)) (F0 m 28 ls []) := by
  obtain ⟨hx, hb, hr, hml, hown, hts, hK, hN, hO, hlk, hbs⟩ := id X
  intro H locs ls hf hR hl
  unfold fX6_isNumber_28 at hf
  refine lv_iconst (v := 0) hx hb dX6_isNumber_28 (by decide) ?_
  exact wX6_isNumber_29 X hf hR hl
set_option maxHeartbeats 4000000 in
set_option maxRecDepth 100000 in
theorem wX6_isNumber_0 {r : Int32} {M : Mem} (X : CX E p s m args c meth cX6_isNumber 3 (some .boolean) RX6) : ∀ {x1 : Int32} {x2 : Int32} {H : Heap} {locs : List Loc} {ls : Array Slot}, fX6_isNumber M x1 x2 = some r → Rl E (sh_ b) (nn b) s.heap M H locs → lv_has ls 3 [(0, .ref (eB E + 10)), (1, .int x1), (2, .int x2)] → W p l e (rm 1 0 0) s m args below meth c H locs 0 0 (MQ below (qq E (some (.int r)) (sh_ b) (nn b) M) args s 0 0 (fr E)) (F0 m 0 ls []) := by
  obtain ⟨hx, hb, hr, hml, hown, hts, hK, hN, hO, hlk, hbs⟩ := id X
  intro x1 x2 H locs ls hf hR hl
  unfold fX6_isNumber at hf
  refine lv_aload_n hx hb dX6_isNumber_0 rfl (lv_at hl 0 rfl) ?_
  refine x_get hx hb hown hts hK hR kX6 (z_10 b) (j := 3) (by decide) fl_X6_48 (v := .int (M.1 10 3)) rfl dX6_isNumber_1 ?_
  refine lv_iconst (v := 3) hx hb dX6_isNumber_4 (by decide) ?_
  refine lv_icmp_ne (tgt := 28) hx hb dX6_isNumber_5 (by decide) (fun q5 => ?_) (fun q5 => ?_)
  · have hf := (br_if hf).2 q5
    exact wX6_isNumber_28 X hf hR (lv_sub hl [] rfl)
  · have hf := (br_if hf).1 q5
    refine lv_aload_n hx hb dX6_isNumber_8 rfl (lv_at hl 0 rfl) ?_
    refine x_get hx hb hown hts hK hR kX6 (z_10 b) (j := 6) (by decide) fl_X6_105 (v := .int (M.1 10 6)) rfl dX6_isNumber_9 ?_
    refine lv_iload_n hx hb dX6_isNumber_12 rfl (lv_at hl 1 rfl) ?_
    refine lv_icmp_lt (tgt := 28) hx hb dX6_isNumber_13 (by decide) (fun q13 => ?_) (fun q13 => ?_)
    · have hf := (br_if hf).1 q13
      exact wX6_isNumber_28 X hf hR (lv_sub hl [] rfl)
    · have hf := (br_if hf).2 q13
      refine lv_aload_n hx hb dX6_isNumber_16 rfl (lv_at hl 0 rfl) ?_
      refine x_get hx hb hown hts hK hR kX6 (z_10 b) (j := 6) (by decide) fl_X6_105 (v := .int (M.1 10 6)) rfl dX6_isNumber_17 ?_
      refine lv_iload_n hx hb dX6_isNumber_20 rfl (lv_at hl 2 rfl) ?_
      refine lv_icmp_gt (tgt := 28) hx hb dX6_isNumber_21 (by decide) (fun q21 => ?_) (fun q21 => ?_)
      · have hf := (br_if hf).1 q21
        exact wX6_isNumber_28 X hf hR (lv_sub hl [] rfl)
      · have hf := (br_if hf).2 q21
        refine lv_iconst (v := 1) hx hb dX6_isNumber_24 (by decide) ?_
        refine lv_goto (tgt := 29) hx hb dX6_isNumber_25 (by decide) ?_
        exact wX6_isNumber_29 X hf hR (lv_sub hl [] rfl)
theorem ctX6_isNumber {l : Launch} {E : Ge} {b : Bool} {M : Mem} {x1 : Int32} {x2 : Int32} {r : Int32} (h : fX6_isNumber M x1 x2 = some r) : CT l E yX6_isNumber cX6_isNumber 3 (some .boolean) 1 0 0 [.ref (eB E + 10), .int x1, .int x2] (some (.int r)) (sh_ b) (nn b) M (sh_ b) (nn b) M := by
  refine met_of (by decide) (Nat.le_of_ble_eq_true rfl) ?_
  intro p e s m args below meth c X _ hR ls hl
  exact wX6_isNumber_0 X h hR hl
def fX6_readShare_81 (M : Mem) : Option (Int32 × Mem) := some ((0 : Int32), M)
def fX6_readShare (M : Mem) : Option (Int32 × Mem) := (fX6_isNumber M (1 : Int32) (99 : Int32)).bind (fun q4 => (if q4 = 0 then some ((0 : Int32), M) else nx (sI M 12 12 (M.1 10 6)) (fun M20 => (fX6_next M20).bind (fun q24 => (if (q24.1 10 3) = (4 : Int32) then (fX6_next q24).bind (fun q38 => (fX6_isNumber q38 (1 : Int32) (99 : Int32)).bind (fun q45 => (if q45 = 0 then fX6_readShare_81 q38 else (if (q38.1 10 6) < (q38.1 12 12) then fX6_readShare_81 q38 else (if (q38.1 10 6) ≤ ((2 : Int32) * (q38.1 12 12)) then nx (sI q38 12 13 (q38.1 10 6)) (fun M91 => (fX6_next M91).bind (fun q95 => some ((1 : Int32), q95))) else fX6_readShare_81 q38))))) else some ((0 : Int32), q24))))))
set_option maxHeartbeats 4000000 in
set_option maxRecDepth 100000 in
theorem wX6_readShare_81 {r : Int32} {M1 : Mem} (X : CX E p s m args c meth cX6_readShare 1 (some .boolean) RX6) : ∀ {M : Mem} {H : Heap} {locs : List Loc} {ls : Array Slot}, fX6_readShare_81 M = some (r, M1) → Rl E (sh_ b) (nn b) s.heap M H locs → lv_has ls 1 [] → W p l e (rm 3 0 0) s m args below meth c H locs 0 0 (MQ below (qq E (some (.int r)) (sh_ b) (nn b) M1) args s 0 0 (fr E)) (F0 m 81 ls []) := by
  obtain ⟨hx, hb, hr, hml, hown, hts, hK, hN, hO, hlk, hbs⟩ := id X
  intro M H locs ls hf hR hl
  unfold fX6_readShare_81 at hf
  refine lv_iconst (v := 0) hx hb dX6_readShare_81 (by decide) ?_
  cases hf
  exact x_zret hx hb hr hlk hR (by decide) dX6_readShare_82
set_option maxHeartbeats 4000000 in
set_option maxRecDepth 100000 in
theorem wX6_readShare_0 {r : Int32} {M1 : Mem} (X : CX E p s m args c meth cX6_readShare 1 (some .boolean) RX6) : ∀ {M : Mem} {H : Heap} {locs : List Loc} {ls : Array Slot}, fX6_readShare M = some (r, M1) → Rl E (sh_ b) (nn b) s.heap M H locs → lv_has ls 1 [(0, .ref (eB E + 10))] → W p l e (rm 3 0 0) s m args below meth c H locs 0 0 (MQ below (qq E (some (.int r)) (sh_ b) (nn b) M1) args s 0 0 (fr E)) (F0 m 0 ls []) := by
  obtain ⟨hx, hb, hr, hml, hown, hts, hK, hN, hO, hlk, hbs⟩ := id X
  intro M H locs ls hf hR hl
  unfold fX6_readShare at hf
  refine lv_aload_n hx hb dX6_readShare_0 rfl (lv_at hl 0 rfl) ?_
  refine lv_iconst (v := 1) hx hb dX6_readShare_1 (by decide) ?_
  refine lv_bipush (v := 99) hx hb dX6_readShare_2 (by decide) ?_
  obtain ⟨q4, c4, hf⟩ := br_b hf
  refine x_callV (k := 10) (As := [.int (1 : Int32), .int (99 : Int32)]) (rest := []) (st1 := [.int q4]) X hR (ctX6_isNumber c4) ml_X6_101 im_X6_isNumber se_X6_isNumber in_X6 co_X6_isNumber yo_X6_isNumber rfl kX6 (z_10 b) (rm_ok (by decide) (by decide)) rfl hl.1 rfl rfl (Nat.le_of_ble_eq_true rfl) dX6_readShare_4 ⟨Nat.zero_le _, Nat.zero_le _⟩ (fun H locs hR => ?_)
  refine lv_if_ne (tgt := 12) hx hb dX6_readShare_7 (by decide) (fun q7 => ?_) (fun q7 => ?_)
  · have hf := (br_if hf).2 q7
    refine lv_aload_n hx hb dX6_readShare_12 rfl (lv_at hl 0 rfl) ?_
    refine x_get hx hb hown hts hK hR kX6 (z_10 b) (j := 2) (by decide) fl_X6_18 (v := .ref (eB E + 12)) rfl dX6_readShare_13 ?_
    refine lv_aload_n hx hb dX6_readShare_16 rfl (lv_at hl 0 rfl) ?_
    refine x_get hx hb hown hts hK hR kX6 (z_10 b) (j := 6) (by decide) fl_X6_105 (v := .int (M.1 10 6)) rfl dX6_readShare_17 ?_
    refine x_puti hx hb hown hts hK hR kX8 (z_12 b) (j := 12) (by decide) fl_X6_133 rfl rfl rfl rfl dX6_readShare_20 (fun H locs hR => ?_)
    obtain ⟨M20, e20⟩ : ∃ y : Mem, y = (sI M 12 12 (M.1 10 6)) := ⟨_, rfl⟩
    have hf := nx_at e20 hf
    have hR : Rl E (sh_ b) (nn b) s.heap M20 H locs := by rw [e20]; exact hR
    refine lv_aload_n hx hb dX6_readShare_23 rfl (lv_at hl 0 rfl) ?_
    obtain ⟨q24, c24, hf⟩ := br_b hf
    refine x_callV (k := 10) (As := []) (rest := []) (st1 := []) X hR (ctX6_next c24) ml_X6_45 im_X6_next se_X6_next in_X6 co_X6_next yo_X6_next rfl kX6 (z_10 b) (rm_ok (by decide) (by decide)) rfl hl.1 rfl rfl (Nat.le_of_ble_eq_true rfl) dX6_readShare_24 ⟨Nat.zero_le _, Nat.zero_le _⟩ (fun H locs hR => ?_)
    refine lv_aload_n hx hb dX6_readShare_27 rfl (lv_at hl 0 rfl) ?_
    refine x_get hx hb hown hts hK hR kX6 (z_10 b) (j := 3) (by decide) fl_X6_48 (v := .int (q24.1 10 3)) rfl dX6_readShare_28 ?_
    refine lv_iconst (v := 4) hx hb dX6_readShare_31 (by decide) ?_
    refine lv_icmp_eq (tgt := 37) hx hb dX6_readShare_32 (by decide) (fun q32 => ?_) (fun q32 => ?_)
    · have hf := (br_if hf).1 q32
      refine lv_aload_n hx hb dX6_readShare_37 rfl (lv_at hl 0 rfl) ?_
      obtain ⟨q38, c38, hf⟩ := br_b hf
      refine x_callV (k := 10) (As := []) (rest := []) (st1 := []) X hR (ctX6_next c38) ml_X6_45 im_X6_next se_X6_next in_X6 co_X6_next yo_X6_next rfl kX6 (z_10 b) (rm_ok (by decide) (by decide)) rfl hl.1 rfl rfl (Nat.le_of_ble_eq_true rfl) dX6_readShare_38 ⟨Nat.zero_le _, Nat.zero_le _⟩ (fun H locs hR => ?_)
      refine lv_aload_n hx hb dX6_readShare_41 rfl (lv_at hl 0 rfl) ?_
      refine lv_iconst (v := 1) hx hb dX6_readShare_42 (by decide) ?_
      refine lv_bipush (v := 99) hx hb dX6_readShare_43 (by decide) ?_
      obtain ⟨q45, c45, hf⟩ := br_b hf
      refine x_callV (k := 10) (As := [.int (1 : Int32), .int (99 : Int32)]) (rest := []) (st1 := [.int q45]) X hR (ctX6_isNumber c45) ml_X6_101 im_X6_isNumber se_X6_isNumber in_X6 co_X6_isNumber yo_X6_isNumber rfl kX6 (z_10 b) (rm_ok (by decide) (by decide)) rfl hl.1 rfl rfl (Nat.le_of_ble_eq_true rfl) dX6_readShare_45 ⟨Nat.zero_le _, Nat.zero_le _⟩ (fun H locs hR => ?_)
      refine lv_if_eq (tgt := 81) hx hb dX6_readShare_48 (by decide) (fun q48 => ?_) (fun q48 => ?_)
      · have hf := (br_if hf).1 q48
        exact wX6_readShare_81 X hf hR (lv_sub hl [] rfl)
      · have hf := (br_if hf).2 q48
        refine lv_aload_n hx hb dX6_readShare_51 rfl (lv_at hl 0 rfl) ?_
        refine x_get hx hb hown hts hK hR kX6 (z_10 b) (j := 2) (by decide) fl_X6_18 (v := .ref (eB E + 12)) rfl dX6_readShare_52 ?_
        refine x_get hx hb hown hts hK hR kX8 (z_12 b) (j := 12) (by decide) fl_X6_133 (v := .int (q38.1 12 12)) rfl dX6_readShare_55 ?_
        refine lv_aload_n hx hb dX6_readShare_58 rfl (lv_at hl 0 rfl) ?_
        refine x_get hx hb hown hts hK hR kX6 (z_10 b) (j := 6) (by decide) fl_X6_105 (v := .int (q38.1 10 6)) rfl dX6_readShare_59 ?_
        refine lv_icmp_gt (tgt := 81) hx hb dX6_readShare_62 (by decide) (fun q62 => ?_) (fun q62 => ?_)
        · have hf := (br_if hf).1 q62
          exact wX6_readShare_81 X hf hR (lv_sub hl [] rfl)
        · have hf := (br_if hf).2 q62
          refine lv_iconst (v := 2) hx hb dX6_readShare_65 (by decide) ?_
          refine lv_aload_n hx hb dX6_readShare_66 rfl (lv_at hl 0 rfl) ?_
          refine x_get hx hb hown hts hK hR kX6 (z_10 b) (j := 2) (by decide) fl_X6_18 (v := .ref (eB E + 12)) rfl dX6_readShare_67 ?_
          refine x_get hx hb hown hts hK hR kX8 (z_12 b) (j := 12) (by decide) fl_X6_133 (v := .int (q38.1 12 12)) rfl dX6_readShare_70 ?_
          refine lv_imul hx hb dX6_readShare_73 ?_
          refine lv_aload_n hx hb dX6_readShare_74 rfl (lv_at hl 0 rfl) ?_
          refine x_get hx hb hown hts hK hR kX6 (z_10 b) (j := 6) (by decide) fl_X6_105 (v := .int (q38.1 10 6)) rfl dX6_readShare_75 ?_
          refine lv_icmp_ge (tgt := 83) hx hb dX6_readShare_78 (by decide) (fun q78 => ?_) (fun q78 => ?_)
          · have hf := (br_if hf).1 q78
            refine lv_aload_n hx hb dX6_readShare_83 rfl (lv_at hl 0 rfl) ?_
            refine x_get hx hb hown hts hK hR kX6 (z_10 b) (j := 2) (by decide) fl_X6_18 (v := .ref (eB E + 12)) rfl dX6_readShare_84 ?_
            refine lv_aload_n hx hb dX6_readShare_87 rfl (lv_at hl 0 rfl) ?_
            refine x_get hx hb hown hts hK hR kX6 (z_10 b) (j := 6) (by decide) fl_X6_105 (v := .int (q38.1 10 6)) rfl dX6_readShare_88 ?_
            refine x_puti hx hb hown hts hK hR kX8 (z_12 b) (j := 13) (by decide) fl_X6_136 rfl rfl rfl rfl dX6_readShare_91 (fun H locs hR => ?_)
            obtain ⟨M91, e91⟩ : ∃ y : Mem, y = (sI q38 12 13 (q38.1 10 6)) := ⟨_, rfl⟩
            have hf := nx_at e91 hf
            have hR : Rl E (sh_ b) (nn b) s.heap M91 H locs := by rw [e91]; exact hR
            refine lv_aload_n hx hb dX6_readShare_94 rfl (lv_at hl 0 rfl) ?_
            obtain ⟨q95, c95, hf⟩ := br_b hf
            refine x_callV (k := 10) (As := []) (rest := []) (st1 := []) X hR (ctX6_next c95) ml_X6_45 im_X6_next se_X6_next in_X6 co_X6_next yo_X6_next rfl kX6 (z_10 b) (rm_ok (by decide) (by decide)) rfl hl.1 rfl rfl (Nat.le_of_ble_eq_true rfl) dX6_readShare_95 ⟨Nat.zero_le _, Nat.zero_le _⟩ (fun H locs hR => ?_)
            refine lv_iconst (v := 1) hx hb dX6_readShare_98 (by decide) ?_
            cases hf
            exact x_zret hx hb hr hlk hR (by decide) dX6_readShare_99
          · have hf := (br_if hf).2 q78
            exact wX6_readShare_81 X hf hR (lv_sub hl [] rfl)
    · have hf := (br_if hf).2 q32
      refine lv_iconst (v := 0) hx hb dX6_readShare_35 (by decide) ?_
      cases hf
      exact x_zret hx hb hr hlk hR (by decide) dX6_readShare_36
  · have hf := (br_if hf).1 q7
    refine lv_iconst (v := 0) hx hb dX6_readShare_10 (by decide) ?_
    cases hf
    exact x_zret hx hb hr hlk hR (by decide) dX6_readShare_11
theorem ctX6_readShare {l : Launch} {E : Ge} {b : Bool} {M : Mem} {r : Int32} {M1 : Mem} (h : fX6_readShare M = some (r, M1)) : CT l E yX6_readShare cX6_readShare 1 (some .boolean) 3 0 0 [.ref (eB E + 10)] (some (.int r)) (sh_ b) (nn b) M (sh_ b) (nn b) M1 := by
  refine met_of (by decide) (Nat.le_of_ble_eq_true rfl) ?_
  intro p e s m args below meth c X _ hR ls hl
  exact wX6_readShare_0 X h hR hl
def fX6_readBar_101 (s0 : Int32) (M : Mem) : Option (Int32 × Mem) := some ((s0 &&& 1), M)
def fX6_readBar_100 (M : Mem) : Option (Int32 × Mem) := fX6_readBar_101 (0 : Int32) M
def fX6_readBar_78 (M : Mem) : Option (Int32 × Mem) := (fX6_next M).bind (fun q79 => (fX6_readShare q79).bind (fun q83 => (if q83.1 = 0 then fX6_readBar_100 (q83.2) else (fX6_passSemicolon q83.2).bind (fun q90 => (if q90.1 = 0 then fX6_readBar_100 (q90.2) else fX6_readBar_101 (1 : Int32) (q90.2))))))
def fX6_readBar (M : Mem) : Option (Int32 × Mem) := (if (M.1 10 10) = 0 then nx (sI M 10 10 (1 : Int32)) (fun M11 => (fX6_next M11).bind (fun q15 => (fX6_isWord q15 23).bind (fun q21 => (if q21 = 0 then (fX6_isWord q15 24).bind (fun q39 => (if q39 = 0 then (fX6_isWord q15 25).bind (fun q59 => (if q59 = 0 then some ((0 : Int32), q15) else nx (sI q15 12 11 (2 : Int32)) (fun M70 => fX6_readBar_78 M70))) else nx (sI q15 12 11 (1 : Int32)) (fun M50 => fX6_readBar_78 M50))) else (fX6_next q15).bind (fun q28 => (fX6_passSemicolon q28).bind (fun q32 => some ((q32.1 &&& 1), q32.2))))))) else some ((0 : Int32), M))
set_option maxHeartbeats 4000000 in
set_option maxRecDepth 100000 in
theorem wX6_readBar_101 {r : Int32} {M1 : Mem} (X : CX E p s m args c meth cX6_readBar 1 (some .boolean) RX6) : ∀ {s0 : Int32} {M : Mem} {H : Heap} {locs : List Loc} {ls : Array Slot}, fX6_readBar_101 s0 M = some (r, M1) → Rl E (sh_ b) (nn b) s.heap M H locs → lv_has ls 1 [] → W p l e (rm 8 0 0) s m args below meth c H locs 0 0 (MQ below (qq E (some (.int r)) (sh_ b) (nn b) M1) args s 0 0 (fr E)) (F0 m 101 ls [.int s0]) := by
  obtain ⟨hx, hb, hr, hml, hown, hts, hK, hN, hO, hlk, hbs⟩ := id X
  intro s0 M H locs ls hf hR hl
  unfold fX6_readBar_101 at hf
  cases hf
  exact x_zret hx hb hr hlk hR rfl dX6_readBar_101
set_option maxHeartbeats 4000000 in
set_option maxRecDepth 100000 in
theorem wX6_readBar_100 {r : Int32} {M1 : Mem} (X : CX E p s m args c meth cX6_readBar 1 (some .boolean) RX6) : ∀ {M : Mem} {H : Heap} {locs : List Loc} {ls : Array Slot}, fX6_readBar_100 M = some (r, M1) → Rl E (sh_ b) (nn b) s.heap M H locs → lv_has ls 1 [] → W p l e (rm 8 0 0) s m args below meth c H locs 0 0 (MQ below (qq E (some (.int r)) (sh_ b) (nn b) M1) args s 0 0 (fr E)) (F0 m 100 ls []) := by
  obtain ⟨hx, hb, hr, hml, hown, hts, hK, hN, hO, hlk, hbs⟩ := id X
  intro M H locs ls hf hR hl
  unfold fX6_readBar_100 at hf
  refine lv_iconst (v := 0) hx hb dX6_readBar_100 (by decide) ?_
  exact wX6_readBar_101 X hf hR hl
set_option maxHeartbeats 4000000 in
set_option maxRecDepth 100000 in
theorem wX6_readBar_78 {r : Int32} {M1 : Mem} (X : CX E p s m args c meth cX6_readBar 1 (some .boolean) RX6) : ∀ {M : Mem} {H : Heap} {locs : List Loc} {ls : Array Slot}, fX6_readBar_78 M = some (r, M1) → Rl E (sh_ b) (nn b) s.heap M H locs → lv_has ls 1 [(0, .ref (eB E + 10))] → W p l e (rm 8 0 0) s m args below meth c H locs 0 0 (MQ below (qq E (some (.int r)) (sh_ b) (nn b) M1) args s 0 0 (fr E)) (F0 m 78 ls []) := by
  obtain ⟨hx, hb, hr, hml, hown, hts, hK, hN, hO, hlk, hbs⟩ := id X
  intro M H locs ls hf hR hl
  unfold fX6_readBar_78 at hf
  refine lv_aload_n hx hb dX6_readBar_78 rfl (lv_at hl 0 rfl) ?_
  obtain ⟨q79, c79, hf⟩ := br_b hf
  refine x_callV (k := 10) (As := []) (rest := []) (st1 := []) X hR (ctX6_next c79) ml_X6_45 im_X6_next se_X6_next in_X6 co_X6_next yo_X6_next rfl kX6 (z_10 b) (rm_ok (by decide) (by decide)) rfl hl.1 rfl rfl (Nat.le_of_ble_eq_true rfl) dX6_readBar_79 ⟨Nat.zero_le _, Nat.zero_le _⟩ (fun H locs hR => ?_)
  refine lv_aload_n hx hb dX6_readBar_82 rfl (lv_at hl 0 rfl) ?_
  obtain ⟨q83, c83, hf⟩ := br_b hf
  refine x_callV (k := 10) (As := []) (rest := []) (st1 := [.int q83.1]) X hR (ctX6_readShare c83) ml_X6_130 im_X6_readShare se_X6_readShare in_X6 co_X6_readShare yo_X6_readShare rfl kX6 (z_10 b) (rm_ok (by decide) (by decide)) rfl hl.1 rfl rfl (Nat.le_of_ble_eq_true rfl) dX6_readBar_83 ⟨Nat.zero_le _, Nat.zero_le _⟩ (fun H locs hR => ?_)
  refine lv_if_eq (tgt := 100) hx hb dX6_readBar_86 (by decide) (fun q86 => ?_) (fun q86 => ?_)
  · have hf := (br_if hf).1 q86
    exact wX6_readBar_100 X hf hR (lv_sub hl [] rfl)
  · have hf := (br_if hf).2 q86
    refine lv_aload_n hx hb dX6_readBar_89 rfl (lv_at hl 0 rfl) ?_
    obtain ⟨q90, c90, hf⟩ := br_b hf
    refine x_callV (k := 10) (As := []) (rest := []) (st1 := [.int q90.1]) X hR (ctX6_passSemicolon c90) ml_X6_98 im_X6_passSemicolon se_X6_passSemicolon in_X6 co_X6_passSemicolon yo_X6_passSemicolon rfl kX6 (z_10 b) (rm_ok (by decide) (by decide)) rfl hl.1 rfl rfl (Nat.le_of_ble_eq_true rfl) dX6_readBar_90 ⟨Nat.zero_le _, Nat.zero_le _⟩ (fun H locs hR => ?_)
    refine lv_if_eq (tgt := 100) hx hb dX6_readBar_93 (by decide) (fun q93 => ?_) (fun q93 => ?_)
    · have hf := (br_if hf).1 q93
      exact wX6_readBar_100 X hf hR (lv_sub hl [] rfl)
    · have hf := (br_if hf).2 q93
      refine lv_iconst (v := 1) hx hb dX6_readBar_96 (by decide) ?_
      refine lv_goto (tgt := 101) hx hb dX6_readBar_97 (by decide) ?_
      exact wX6_readBar_101 X hf hR (lv_sub hl [] rfl)
set_option maxHeartbeats 4000000 in
set_option maxRecDepth 100000 in
theorem wX6_readBar_0 {r : Int32} {M1 : Mem} (X : CX E p s m args c meth cX6_readBar 1 (some .boolean) RX6) : ∀ {M : Mem} {H : Heap} {locs : List Loc} {ls : Array Slot}, fX6_readBar M = some (r, M1) → Rl E (sh_ b) (nn b) s.heap M H locs → lv_has ls 1 [(0, .ref (eB E + 10))] → W p l e (rm 8 0 0) s m args below meth c H locs 0 0 (MQ below (qq E (some (.int r)) (sh_ b) (nn b) M1) args s 0 0 (fr E)) (F0 m 0 ls []) := by
  obtain ⟨hx, hb, hr, hml, hown, hts, hK, hN, hO, hlk, hbs⟩ := id X
  intro M H locs ls hf hR hl
  unfold fX6_readBar at hf
  refine lv_aload_n hx hb dX6_readBar_0 rfl (lv_at hl 0 rfl) ?_
  refine x_get hx hb hown hts hK hR kX6 (z_10 b) (j := 10) (by decide) fl_X6_38 (v := .int (M.1 10 10)) rfl dX6_readBar_1 ?_
  refine lv_if_eq (tgt := 9) hx hb dX6_readBar_4 (by decide) (fun q4 => ?_) (fun q4 => ?_)
  · have hf := (br_if hf).1 q4
    refine lv_aload_n hx hb dX6_readBar_9 rfl (lv_at hl 0 rfl) ?_
    refine lv_iconst (v := 1) hx hb dX6_readBar_10 (by decide) ?_
    refine x_puti hx hb hown hts hK hR kX6 (z_10 b) (j := 10) (by decide) fl_X6_38 rfl rfl rfl rfl dX6_readBar_11 (fun H locs hR => ?_)
    obtain ⟨M11, e11⟩ : ∃ y : Mem, y = (sI M 10 10 (1 : Int32)) := ⟨_, rfl⟩
    have hf := nx_at e11 hf
    have hR : Rl E (sh_ b) (nn b) s.heap M11 H locs := by rw [e11]; exact hR
    refine lv_aload_n hx hb dX6_readBar_14 rfl (lv_at hl 0 rfl) ?_
    obtain ⟨q15, c15, hf⟩ := br_b hf
    refine x_callV (k := 10) (As := []) (rest := []) (st1 := []) X hR (ctX6_next c15) ml_X6_45 im_X6_next se_X6_next in_X6 co_X6_next yo_X6_next rfl kX6 (z_10 b) (rm_ok (by decide) (by decide)) rfl hl.1 rfl rfl (Nat.le_of_ble_eq_true rfl) dX6_readBar_15 ⟨Nat.zero_le _, Nat.zero_le _⟩ (fun H locs hR => ?_)
    refine lv_aload_n hx hb dX6_readBar_18 rfl (lv_at hl 0 rfl) ?_
    refine va_ldcS hx hb hown (hN.1 23 (by decide)) dX6_readBar_19 ?_
    obtain ⟨q21, c21, hf⟩ := br_b hf
    refine x_callV (k := 10) (As := [.ref (E.2.2.1 23)]) (rest := []) (st1 := [.int q21]) X hR (ctX6_isWord (by decide : 23 < 26) c21) ml_X6_63 im_X6_isWord se_X6_isWord in_X6 co_X6_isWord yo_X6_isWord rfl kX6 (z_10 b) (rm_ok (by decide) (by decide)) rfl hl.1 rfl rfl (Nat.le_of_ble_eq_true rfl) dX6_readBar_21 ⟨Nat.zero_le _, Nat.zero_le _⟩ (fun H locs hR => ?_)
    refine lv_if_eq (tgt := 36) hx hb dX6_readBar_24 (by decide) (fun q24 => ?_) (fun q24 => ?_)
    · have hf := (br_if hf).1 q24
      refine lv_aload_n hx hb dX6_readBar_36 rfl (lv_at hl 0 rfl) ?_
      refine va_ldcS hx hb hown (hN.1 24 (by decide)) dX6_readBar_37 ?_
      obtain ⟨q39, c39, hf⟩ := br_b hf
      refine x_callV (k := 10) (As := [.ref (E.2.2.1 24)]) (rest := []) (st1 := [.int q39]) X hR (ctX6_isWord (by decide : 24 < 26) c39) ml_X6_63 im_X6_isWord se_X6_isWord in_X6 co_X6_isWord yo_X6_isWord rfl kX6 (z_10 b) (rm_ok (by decide) (by decide)) rfl hl.1 rfl rfl (Nat.le_of_ble_eq_true rfl) dX6_readBar_39 ⟨Nat.zero_le _, Nat.zero_le _⟩ (fun H locs hR => ?_)
      refine lv_if_eq (tgt := 56) hx hb dX6_readBar_42 (by decide) (fun q42 => ?_) (fun q42 => ?_)
      · have hf := (br_if hf).1 q42
        refine lv_aload_n hx hb dX6_readBar_56 rfl (lv_at hl 0 rfl) ?_
        refine va_ldcS hx hb hown (hN.1 25 (by decide)) dX6_readBar_57 ?_
        obtain ⟨q59, c59, hf⟩ := br_b hf
        refine x_callV (k := 10) (As := [.ref (E.2.2.1 25)]) (rest := []) (st1 := [.int q59]) X hR (ctX6_isWord (by decide : 25 < 26) c59) ml_X6_63 im_X6_isWord se_X6_isWord in_X6 co_X6_isWord yo_X6_isWord rfl kX6 (z_10 b) (rm_ok (by decide) (by decide)) rfl hl.1 rfl rfl (Nat.le_of_ble_eq_true rfl) dX6_readBar_59 ⟨Nat.zero_le _, Nat.zero_le _⟩ (fun H locs hR => ?_)
        refine lv_if_eq (tgt := 76) hx hb dX6_readBar_62 (by decide) (fun q62 => ?_) (fun q62 => ?_)
        · have hf := (br_if hf).1 q62
          refine lv_iconst (v := 0) hx hb dX6_readBar_76 (by decide) ?_
          cases hf
          exact x_zret hx hb hr hlk hR (by decide) dX6_readBar_77
        · have hf := (br_if hf).2 q62
          refine lv_aload_n hx hb dX6_readBar_65 rfl (lv_at hl 0 rfl) ?_
          refine x_get hx hb hown hts hK hR kX6 (z_10 b) (j := 2) (by decide) fl_X6_18 (v := .ref (eB E + 12)) rfl dX6_readBar_66 ?_
          refine lv_iconst (v := 2) hx hb dX6_readBar_69 (by decide) ?_
          refine x_puti hx hb hown hts hK hR kX8 (z_12 b) (j := 11) (by decide) fl_X6_125 rfl rfl rfl rfl dX6_readBar_70 (fun H locs hR => ?_)
          obtain ⟨M70, e70⟩ : ∃ y : Mem, y = (sI q15 12 11 (2 : Int32)) := ⟨_, rfl⟩
          have hf := nx_at e70 hf
          have hR : Rl E (sh_ b) (nn b) s.heap M70 H locs := by rw [e70]; exact hR
          refine lv_goto (tgt := 78) hx hb dX6_readBar_73 (by decide) ?_
          exact wX6_readBar_78 X hf hR hl
      · have hf := (br_if hf).2 q42
        refine lv_aload_n hx hb dX6_readBar_45 rfl (lv_at hl 0 rfl) ?_
        refine x_get hx hb hown hts hK hR kX6 (z_10 b) (j := 2) (by decide) fl_X6_18 (v := .ref (eB E + 12)) rfl dX6_readBar_46 ?_
        refine lv_iconst (v := 1) hx hb dX6_readBar_49 (by decide) ?_
        refine x_puti hx hb hown hts hK hR kX8 (z_12 b) (j := 11) (by decide) fl_X6_125 rfl rfl rfl rfl dX6_readBar_50 (fun H locs hR => ?_)
        obtain ⟨M50, e50⟩ : ∃ y : Mem, y = (sI q15 12 11 (1 : Int32)) := ⟨_, rfl⟩
        have hf := nx_at e50 hf
        have hR : Rl E (sh_ b) (nn b) s.heap M50 H locs := by rw [e50]; exact hR
        refine lv_goto (tgt := 78) hx hb dX6_readBar_53 (by decide) ?_
        exact wX6_readBar_78 X hf hR hl
    · have hf := (br_if hf).2 q24
      refine lv_aload_n hx hb dX6_readBar_27 rfl (lv_at hl 0 rfl) ?_
      obtain ⟨q28, c28, hf⟩ := br_b hf
      refine x_callV (k := 10) (As := []) (rest := []) (st1 := []) X hR (ctX6_next c28) ml_X6_45 im_X6_next se_X6_next in_X6 co_X6_next yo_X6_next rfl kX6 (z_10 b) (rm_ok (by decide) (by decide)) rfl hl.1 rfl rfl (Nat.le_of_ble_eq_true rfl) dX6_readBar_28 ⟨Nat.zero_le _, Nat.zero_le _⟩ (fun H locs hR => ?_)
      refine lv_aload_n hx hb dX6_readBar_31 rfl (lv_at hl 0 rfl) ?_
      obtain ⟨q32, c32, hf⟩ := br_b hf
      refine x_callV (k := 10) (As := []) (rest := []) (st1 := [.int q32.1]) X hR (ctX6_passSemicolon c32) ml_X6_98 im_X6_passSemicolon se_X6_passSemicolon in_X6 co_X6_passSemicolon yo_X6_passSemicolon rfl kX6 (z_10 b) (rm_ok (by decide) (by decide)) rfl hl.1 rfl rfl (Nat.le_of_ble_eq_true rfl) dX6_readBar_32 ⟨Nat.zero_le _, Nat.zero_le _⟩ (fun H locs hR => ?_)
      cases hf
      exact x_zret hx hb hr hlk hR rfl dX6_readBar_35
  · have hf := (br_if hf).2 q4
    refine lv_iconst (v := 0) hx hb dX6_readBar_7 (by decide) ?_
    cases hf
    exact x_zret hx hb hr hlk hR (by decide) dX6_readBar_8
theorem ctX6_readBar {l : Launch} {E : Ge} {b : Bool} {M : Mem} {r : Int32} {M1 : Mem} (h : fX6_readBar M = some (r, M1)) : CT l E yX6_readBar cX6_readBar 1 (some .boolean) 8 0 0 [.ref (eB E + 10)] (some (.int r)) (sh_ b) (nn b) M (sh_ b) (nn b) M1 := by
  refine met_of (by decide) (Nat.le_of_ble_eq_true rfl) ?_
  intro p e s m args below meth c X _ hR ls hl
  exact wX6_readBar_0 X h hR hl
def fX6_readPlace (M : Mem) : Option (Int32 × Mem) := (if (M.1 12 8) < (20 : Int32) then (fX6_next M).bind (fun q15 => (fX6_isNumber q15 (0 : Int32) (99 : Int32)).bind (fun q22 => (if q22 = 0 then some ((0 : Int32), q15) else nx (q15.1 10 6) (fun v34 => (fX6_next q15).bind (fun q36 => (fX6_isNumber q36 (0 : Int32) (99 : Int32)).bind (fun q43 => (if q43 = 0 then some ((0 : Int32), q36) else (fX8_addPlace_d v34 (q36.1 10 6) q36).bind (fun q60 => (fX6_next q60).bind (fun q64 => (fX6_passSemicolon q64).bind (fun q68 => some ((q68.1 &&& 1), q68.2))))))))))) else some ((0 : Int32), M))
set_option maxHeartbeats 4000000 in
set_option maxRecDepth 100000 in
theorem wX6_readPlace_0 {r : Int32} {M1 : Mem} (X : CX E p s m args c meth cX6_readPlace 2 (some .boolean) RX6) : ∀ {M : Mem} {H : Heap} {locs : List Loc} {ls : Array Slot}, fX6_readPlace M = some (r, M1) → Rl E (sh_ b) (nn b) s.heap M H locs → lv_has ls 2 [(0, .ref (eB E + 10))] → W p l e (rm 4 0 0) s m args below meth c H locs 0 0 (MQ below (qq E (some (.int r)) (sh_ b) (nn b) M1) args s 0 0 (fr E)) (F0 m 0 ls []) := by
  obtain ⟨hx, hb, hr, hml, hown, hts, hK, hN, hO, hlk, hbs⟩ := id X
  intro M H locs ls hf hR hl
  unfold fX6_readPlace at hf
  refine lv_aload_n hx hb dX6_readPlace_0 rfl (lv_at hl 0 rfl) ?_
  refine x_get hx hb hown hts hK hR kX6 (z_10 b) (j := 2) (by decide) fl_X6_18 (v := .ref (eB E + 12)) rfl dX6_readPlace_1 ?_
  refine x_get hx hb hown hts hK hR kX8 (z_12 b) (j := 8) (by decide) fl_X6_114 (v := .int (M.1 12 8)) rfl dX6_readPlace_4 ?_
  refine lv_bipush (v := 20) hx hb dX6_readPlace_7 (by decide) ?_
  refine lv_icmp_lt (tgt := 14) hx hb dX6_readPlace_9 (by decide) (fun q9 => ?_) (fun q9 => ?_)
  · have hf := (br_if hf).1 q9
    refine lv_aload_n hx hb dX6_readPlace_14 rfl (lv_at hl 0 rfl) ?_
    obtain ⟨q15, c15, hf⟩ := br_b hf
    refine x_callV (k := 10) (As := []) (rest := []) (st1 := []) X hR (ctX6_next c15) ml_X6_45 im_X6_next se_X6_next in_X6 co_X6_next yo_X6_next rfl kX6 (z_10 b) (rm_ok (by decide) (by decide)) rfl hl.1 rfl rfl (Nat.le_of_ble_eq_true rfl) dX6_readPlace_15 ⟨Nat.zero_le _, Nat.zero_le _⟩ (fun H locs hR => ?_)
    refine lv_aload_n hx hb dX6_readPlace_18 rfl (lv_at hl 0 rfl) ?_
    refine lv_iconst (v := 0) hx hb dX6_readPlace_19 (by decide) ?_
    refine lv_bipush (v := 99) hx hb dX6_readPlace_20 (by decide) ?_
    obtain ⟨q22, c22, hf⟩ := br_b hf
    refine x_callV (k := 10) (As := [.int (0 : Int32), .int (99 : Int32)]) (rest := []) (st1 := [.int q22]) X hR (ctX6_isNumber c22) ml_X6_101 im_X6_isNumber se_X6_isNumber in_X6 co_X6_isNumber yo_X6_isNumber rfl kX6 (z_10 b) (rm_ok (by decide) (by decide)) rfl hl.1 rfl rfl (Nat.le_of_ble_eq_true rfl) dX6_readPlace_22 ⟨Nat.zero_le _, Nat.zero_le _⟩ (fun H locs hR => ?_)
    refine lv_if_ne (tgt := 30) hx hb dX6_readPlace_25 (by decide) (fun q25 => ?_) (fun q25 => ?_)
    · have hf := (br_if hf).2 q25
      refine lv_aload_n hx hb dX6_readPlace_30 rfl (lv_at hl 0 rfl) ?_
      refine x_get hx hb hown hts hK hR kX6 (z_10 b) (j := 6) (by decide) fl_X6_105 (v := .int (q15.1 10 6)) rfl dX6_readPlace_31 ?_
      refine lv_topi (fun v34 e34 => ?_)
      have hf := nx_at e34 hf
      refine lv_istore_n (lv' := [(1, .int v34), (0, .ref (eB E + 10))]) hx hb dX6_readPlace_34 rfl hl (by decide) rfl (fun ls hl => ?_)
      refine lv_aload_n hx hb dX6_readPlace_35 rfl (lv_at hl 1 rfl) ?_
      obtain ⟨q36, c36, hf⟩ := br_b hf
      refine x_callV (k := 10) (As := []) (rest := []) (st1 := []) X hR (ctX6_next c36) ml_X6_45 im_X6_next se_X6_next in_X6 co_X6_next yo_X6_next rfl kX6 (z_10 b) (rm_ok (by decide) (by decide)) rfl hl.1 rfl rfl (Nat.le_of_ble_eq_true rfl) dX6_readPlace_36 ⟨Nat.zero_le _, Nat.zero_le _⟩ (fun H locs hR => ?_)
      refine lv_aload_n hx hb dX6_readPlace_39 rfl (lv_at hl 1 rfl) ?_
      refine lv_iconst (v := 0) hx hb dX6_readPlace_40 (by decide) ?_
      refine lv_bipush (v := 99) hx hb dX6_readPlace_41 (by decide) ?_
      obtain ⟨q43, c43, hf⟩ := br_b hf
      refine x_callV (k := 10) (As := [.int (0 : Int32), .int (99 : Int32)]) (rest := []) (st1 := [.int q43]) X hR (ctX6_isNumber c43) ml_X6_101 im_X6_isNumber se_X6_isNumber in_X6 co_X6_isNumber yo_X6_isNumber rfl kX6 (z_10 b) (rm_ok (by decide) (by decide)) rfl hl.1 rfl rfl (Nat.le_of_ble_eq_true rfl) dX6_readPlace_43 ⟨Nat.zero_le _, Nat.zero_le _⟩ (fun H locs hR => ?_)
      refine lv_if_ne (tgt := 51) hx hb dX6_readPlace_46 (by decide) (fun q46 => ?_) (fun q46 => ?_)
      · have hf := (br_if hf).2 q46
        refine lv_aload_n hx hb dX6_readPlace_51 rfl (lv_at hl 1 rfl) ?_
        refine x_get hx hb hown hts hK hR kX6 (z_10 b) (j := 2) (by decide) fl_X6_18 (v := .ref (eB E + 12)) rfl dX6_readPlace_52 ?_
        refine lv_iload_n hx hb dX6_readPlace_55 rfl (lv_at hl 0 rfl) ?_
        refine lv_aload_n hx hb dX6_readPlace_56 rfl (lv_at hl 1 rfl) ?_
        refine x_get hx hb hown hts hK hR kX6 (z_10 b) (j := 6) (by decide) fl_X6_105 (v := .int (q36.1 10 6)) rfl dX6_readPlace_57 ?_
        obtain ⟨q60, c60, hf⟩ := br_b hf
        refine x_callV (k := 12) (As := [.int v34, .int (q36.1 10 6)]) (rest := []) (st1 := []) X hR (ctX8_addPlace_d c60) ml_X6_117 im_X8_addPlace se_X8_addPlace in_X8 co_X8_addPlace yo_X8_addPlace rfl kX8 (z_12 b) (rm_ok (by decide) (by decide)) rfl hl.1 rfl rfl (Nat.le_of_ble_eq_true rfl) dX6_readPlace_60 ⟨Nat.zero_le _, Nat.zero_le _⟩ (fun H locs hR => ?_)
        refine lv_aload_n hx hb dX6_readPlace_63 rfl (lv_at hl 1 rfl) ?_
        obtain ⟨q64, c64, hf⟩ := br_b hf
        refine x_callV (k := 10) (As := []) (rest := []) (st1 := []) X hR (ctX6_next c64) ml_X6_45 im_X6_next se_X6_next in_X6 co_X6_next yo_X6_next rfl kX6 (z_10 b) (rm_ok (by decide) (by decide)) rfl hl.1 rfl rfl (Nat.le_of_ble_eq_true rfl) dX6_readPlace_64 ⟨Nat.zero_le _, Nat.zero_le _⟩ (fun H locs hR => ?_)
        refine lv_aload_n hx hb dX6_readPlace_67 rfl (lv_at hl 1 rfl) ?_
        obtain ⟨q68, c68, hf⟩ := br_b hf
        refine x_callV (k := 10) (As := []) (rest := []) (st1 := [.int q68.1]) X hR (ctX6_passSemicolon c68) ml_X6_98 im_X6_passSemicolon se_X6_passSemicolon in_X6 co_X6_passSemicolon yo_X6_passSemicolon rfl kX6 (z_10 b) (rm_ok (by decide) (by decide)) rfl hl.1 rfl rfl (Nat.le_of_ble_eq_true rfl) dX6_readPlace_68 ⟨Nat.zero_le _, Nat.zero_le _⟩ (fun H locs hR => ?_)
        cases hf
        exact x_zret hx hb hr hlk hR rfl dX6_readPlace_71
      · have hf := (br_if hf).1 q46
        refine lv_iconst (v := 0) hx hb dX6_readPlace_49 (by decide) ?_
        cases hf
        exact x_zret hx hb hr hlk hR (by decide) dX6_readPlace_50
    · have hf := (br_if hf).1 q25
      refine lv_iconst (v := 0) hx hb dX6_readPlace_28 (by decide) ?_
      cases hf
      exact x_zret hx hb hr hlk hR (by decide) dX6_readPlace_29
  · have hf := (br_if hf).2 q9
    refine lv_iconst (v := 0) hx hb dX6_readPlace_12 (by decide) ?_
    cases hf
    exact x_zret hx hb hr hlk hR (by decide) dX6_readPlace_13
theorem ctX6_readPlace {l : Launch} {E : Ge} {b : Bool} {M : Mem} {r : Int32} {M1 : Mem} (h : fX6_readPlace M = some (r, M1)) : CT l E yX6_readPlace cX6_readPlace 2 (some .boolean) 4 0 0 [.ref (eB E + 10)] (some (.int r)) (sh_ b) (nn b) M (sh_ b) (nn b) M1 := by
  refine met_of (by decide) (Nat.le_of_ble_eq_true rfl) ?_
  intro p e s m args below meth c X _ hR ls hl
  exact wX6_readPlace_0 X h hR hl
def fX6_readVoter_96 (x1 : Int32) (x2 : Int32) (x3 : Int32) (M : Mem) : Option (Int32 × Mem) := (fX8_addVoter_d x1 x2 x3 (M.1 10 7) (M.1 10 8) (M.1 10 9) M).bind (fun q115 => (fX6_passSemicolon q115).bind (fun q119 => some ((q119.1 &&& 1), q119.2)))
def fX6_readVoter (M : Mem) : Option (Int32 × Mem) := (if (M.1 12 0) < (15 : Int32) then (fX6_next M).bind (fun q15 => (fX6_isNumber q15 (0 : Int32) (99 : Int32)).bind (fun q22 => (if q22 = 0 then some ((0 : Int32), q15) else nx (q15.1 10 6) (fun v34 => (fX6_next q15).bind (fun q36 => (fX6_isNumber q36 (0 : Int32) (99 : Int32)).bind (fun q43 => (if q43 = 0 then some ((0 : Int32), q36) else nx (q36.1 10 6) (fun v55 => (fX6_next q36).bind (fun q59 => (fX6_isWord q59 22).bind (fun q65 => (if q65 = 0 then fX6_readVoter_96 v34 v55 (1 : Int32) q59 else (fX6_next q59).bind (fun q72 => (fX6_isNumber q72 (1 : Int32) (9 : Int32)).bind (fun q79 => (if q79 = 0 then some ((0 : Int32), q72) else nx (q72.1 10 6) (fun v91 => (fX6_next q72).bind (fun q93 => fX6_readVoter_96 v34 v55 v91 q93)))))))))))))))) else some ((0 : Int32), M))
set_option maxHeartbeats 4000000 in
set_option maxRecDepth 100000 in
theorem wX6_readVoter_96 {r : Int32} {M1 : Mem} (X : CX E p s m args c meth cX6_readVoter 4 (some .boolean) RX6) : ∀ {x1 : Int32} {x2 : Int32} {x3 : Int32} {M : Mem} {H : Heap} {locs : List Loc} {ls : Array Slot}, fX6_readVoter_96 x1 x2 x3 M = some (r, M1) → Rl E (sh_ b) (nn b) s.heap M H locs → lv_has ls 4 [(0, .ref (eB E + 10)), (1, .int x1), (2, .int x2), (3, .int x3)] → W p l e (rm 8 0 0) s m args below meth c H locs 0 0 (MQ below (qq E (some (.int r)) (sh_ b) (nn b) M1) args s 0 0 (fr E)) (F0 m 96 ls []) := by
  obtain ⟨hx, hb, hr, hml, hown, hts, hK, hN, hO, hlk, hbs⟩ := id X
  intro x1 x2 x3 M H locs ls hf hR hl
  unfold fX6_readVoter_96 at hf
  refine lv_aload_n hx hb dX6_readVoter_96 rfl (lv_at hl 0 rfl) ?_
  refine x_get hx hb hown hts hK hR kX6 (z_10 b) (j := 2) (by decide) fl_X6_18 (v := .ref (eB E + 12)) rfl dX6_readVoter_97 ?_
  refine lv_iload_n hx hb dX6_readVoter_100 rfl (lv_at hl 1 rfl) ?_
  refine lv_iload_n hx hb dX6_readVoter_101 rfl (lv_at hl 2 rfl) ?_
  refine lv_iload_n hx hb dX6_readVoter_102 rfl (lv_at hl 3 rfl) ?_
  refine lv_aload_n hx hb dX6_readVoter_103 rfl (lv_at hl 0 rfl) ?_
  refine x_get hx hb hown hts hK hR kX6 (z_10 b) (j := 7) (by decide) fl_X6_29 (v := .int (M.1 10 7)) rfl dX6_readVoter_104 ?_
  refine lv_aload_n hx hb dX6_readVoter_107 rfl (lv_at hl 0 rfl) ?_
  refine x_get hx hb hown hts hK hR kX6 (z_10 b) (j := 8) (by decide) fl_X6_32 (v := .int (M.1 10 8)) rfl dX6_readVoter_108 ?_
  refine lv_aload_n hx hb dX6_readVoter_111 rfl (lv_at hl 0 rfl) ?_
  refine x_get hx hb hown hts hK hR kX6 (z_10 b) (j := 9) (by decide) fl_X6_35 (v := .int (M.1 10 9)) rfl dX6_readVoter_112 ?_
  obtain ⟨q115, c115, hf⟩ := br_b hf
  refine x_callV (k := 12) (As := [.int x1, .int x2, .int x3, .int (M.1 10 7), .int (M.1 10 8), .int (M.1 10 9)]) (rest := []) (st1 := []) X hR (ctX8_addVoter_d c115) ml_X6_110 im_X8_addVoter se_X8_addVoter in_X8 co_X8_addVoter yo_X8_addVoter rfl kX8 (z_12 b) (rm_ok (by decide) (by decide)) rfl hl.1 rfl rfl (Nat.le_of_ble_eq_true rfl) dX6_readVoter_115 ⟨Nat.zero_le _, Nat.zero_le _⟩ (fun H locs hR => ?_)
  refine lv_aload_n hx hb dX6_readVoter_118 rfl (lv_at hl 0 rfl) ?_
  obtain ⟨q119, c119, hf⟩ := br_b hf
  refine x_callV (k := 10) (As := []) (rest := []) (st1 := [.int q119.1]) X hR (ctX6_passSemicolon c119) ml_X6_98 im_X6_passSemicolon se_X6_passSemicolon in_X6 co_X6_passSemicolon yo_X6_passSemicolon rfl kX6 (z_10 b) (rm_ok (by decide) (by decide)) rfl hl.1 rfl rfl (Nat.le_of_ble_eq_true rfl) dX6_readVoter_119 ⟨Nat.zero_le _, Nat.zero_le _⟩ (fun H locs hR => ?_)
  cases hf
  exact x_zret hx hb hr hlk hR rfl dX6_readVoter_122
set_option maxHeartbeats 4000000 in
set_option maxRecDepth 100000 in
theorem wX6_readVoter_0 {r : Int32} {M1 : Mem} (X : CX E p s m args c meth cX6_readVoter 4 (some .boolean) RX6) : ∀ {M : Mem} {H : Heap} {locs : List Loc} {ls : Array Slot}, fX6_readVoter M = some (r, M1) → Rl E (sh_ b) (nn b) s.heap M H locs → lv_has ls 4 [(0, .ref (eB E + 10))] → W p l e (rm 8 0 0) s m args below meth c H locs 0 0 (MQ below (qq E (some (.int r)) (sh_ b) (nn b) M1) args s 0 0 (fr E)) (F0 m 0 ls []) := by
  obtain ⟨hx, hb, hr, hml, hown, hts, hK, hN, hO, hlk, hbs⟩ := id X
  intro M H locs ls hf hR hl
  unfold fX6_readVoter at hf
  refine lv_aload_n hx hb dX6_readVoter_0 rfl (lv_at hl 0 rfl) ?_
  refine x_get hx hb hown hts hK hR kX6 (z_10 b) (j := 2) (by decide) fl_X6_18 (v := .ref (eB E + 12)) rfl dX6_readVoter_1 ?_
  refine x_get hx hb hown hts hK hR kX8 (z_12 b) (j := 0) (by decide) fl_X6_58 (v := .int (M.1 12 0)) rfl dX6_readVoter_4 ?_
  refine lv_bipush (v := 15) hx hb dX6_readVoter_7 (by decide) ?_
  refine lv_icmp_lt (tgt := 14) hx hb dX6_readVoter_9 (by decide) (fun q9 => ?_) (fun q9 => ?_)
  · have hf := (br_if hf).1 q9
    refine lv_aload_n hx hb dX6_readVoter_14 rfl (lv_at hl 0 rfl) ?_
    obtain ⟨q15, c15, hf⟩ := br_b hf
    refine x_callV (k := 10) (As := []) (rest := []) (st1 := []) X hR (ctX6_next c15) ml_X6_45 im_X6_next se_X6_next in_X6 co_X6_next yo_X6_next rfl kX6 (z_10 b) (rm_ok (by decide) (by decide)) rfl hl.1 rfl rfl (Nat.le_of_ble_eq_true rfl) dX6_readVoter_15 ⟨Nat.zero_le _, Nat.zero_le _⟩ (fun H locs hR => ?_)
    refine lv_aload_n hx hb dX6_readVoter_18 rfl (lv_at hl 0 rfl) ?_
    refine lv_iconst (v := 0) hx hb dX6_readVoter_19 (by decide) ?_
    refine lv_bipush (v := 99) hx hb dX6_readVoter_20 (by decide) ?_
    obtain ⟨q22, c22, hf⟩ := br_b hf
    refine x_callV (k := 10) (As := [.int (0 : Int32), .int (99 : Int32)]) (rest := []) (st1 := [.int q22]) X hR (ctX6_isNumber c22) ml_X6_101 im_X6_isNumber se_X6_isNumber in_X6 co_X6_isNumber yo_X6_isNumber rfl kX6 (z_10 b) (rm_ok (by decide) (by decide)) rfl hl.1 rfl rfl (Nat.le_of_ble_eq_true rfl) dX6_readVoter_22 ⟨Nat.zero_le _, Nat.zero_le _⟩ (fun H locs hR => ?_)
    refine lv_if_ne (tgt := 30) hx hb dX6_readVoter_25 (by decide) (fun q25 => ?_) (fun q25 => ?_)
    · have hf := (br_if hf).2 q25
      refine lv_aload_n hx hb dX6_readVoter_30 rfl (lv_at hl 0 rfl) ?_
      refine x_get hx hb hown hts hK hR kX6 (z_10 b) (j := 6) (by decide) fl_X6_105 (v := .int (q15.1 10 6)) rfl dX6_readVoter_31 ?_
      refine lv_topi (fun v34 e34 => ?_)
      have hf := nx_at e34 hf
      refine lv_istore_n (lv' := [(1, .int v34), (0, .ref (eB E + 10))]) hx hb dX6_readVoter_34 rfl hl (by decide) rfl (fun ls hl => ?_)
      refine lv_aload_n hx hb dX6_readVoter_35 rfl (lv_at hl 1 rfl) ?_
      obtain ⟨q36, c36, hf⟩ := br_b hf
      refine x_callV (k := 10) (As := []) (rest := []) (st1 := []) X hR (ctX6_next c36) ml_X6_45 im_X6_next se_X6_next in_X6 co_X6_next yo_X6_next rfl kX6 (z_10 b) (rm_ok (by decide) (by decide)) rfl hl.1 rfl rfl (Nat.le_of_ble_eq_true rfl) dX6_readVoter_36 ⟨Nat.zero_le _, Nat.zero_le _⟩ (fun H locs hR => ?_)
      refine lv_aload_n hx hb dX6_readVoter_39 rfl (lv_at hl 1 rfl) ?_
      refine lv_iconst (v := 0) hx hb dX6_readVoter_40 (by decide) ?_
      refine lv_bipush (v := 99) hx hb dX6_readVoter_41 (by decide) ?_
      obtain ⟨q43, c43, hf⟩ := br_b hf
      refine x_callV (k := 10) (As := [.int (0 : Int32), .int (99 : Int32)]) (rest := []) (st1 := [.int q43]) X hR (ctX6_isNumber c43) ml_X6_101 im_X6_isNumber se_X6_isNumber in_X6 co_X6_isNumber yo_X6_isNumber rfl kX6 (z_10 b) (rm_ok (by decide) (by decide)) rfl hl.1 rfl rfl (Nat.le_of_ble_eq_true rfl) dX6_readVoter_43 ⟨Nat.zero_le _, Nat.zero_le _⟩ (fun H locs hR => ?_)
      refine lv_if_ne (tgt := 51) hx hb dX6_readVoter_46 (by decide) (fun q46 => ?_) (fun q46 => ?_)
      · have hf := (br_if hf).2 q46
        refine lv_aload_n hx hb dX6_readVoter_51 rfl (lv_at hl 1 rfl) ?_
        refine x_get hx hb hown hts hK hR kX6 (z_10 b) (j := 6) (by decide) fl_X6_105 (v := .int (q36.1 10 6)) rfl dX6_readVoter_52 ?_
        refine lv_topi (fun v55 e55 => ?_)
        have hf := nx_at e55 hf
        refine lv_istore_n (lv' := [(2, .int v55), (1, .int v34), (0, .ref (eB E + 10))]) hx hb dX6_readVoter_55 rfl hl (by decide) rfl (fun ls hl => ?_)
        refine lv_iconst (v := 1) hx hb dX6_readVoter_56 (by decide) ?_
        refine lv_istore_n (lv' := [(3, .int (1 : Int32)), (2, .int v55), (1, .int v34), (0, .ref (eB E + 10))]) hx hb dX6_readVoter_57 rfl hl (by decide) rfl (fun ls hl => ?_)
        refine lv_aload_n hx hb dX6_readVoter_58 rfl (lv_at hl 3 rfl) ?_
        obtain ⟨q59, c59, hf⟩ := br_b hf
        refine x_callV (k := 10) (As := []) (rest := []) (st1 := []) X hR (ctX6_next c59) ml_X6_45 im_X6_next se_X6_next in_X6 co_X6_next yo_X6_next rfl kX6 (z_10 b) (rm_ok (by decide) (by decide)) rfl hl.1 rfl rfl (Nat.le_of_ble_eq_true rfl) dX6_readVoter_59 ⟨Nat.zero_le _, Nat.zero_le _⟩ (fun H locs hR => ?_)
        refine lv_aload_n hx hb dX6_readVoter_62 rfl (lv_at hl 3 rfl) ?_
        refine va_ldcS hx hb hown (hN.1 22 (by decide)) dX6_readVoter_63 ?_
        obtain ⟨q65, c65, hf⟩ := br_b hf
        refine x_callV (k := 10) (As := [.ref (E.2.2.1 22)]) (rest := []) (st1 := [.int q65]) X hR (ctX6_isWord (by decide : 22 < 26) c65) ml_X6_63 im_X6_isWord se_X6_isWord in_X6 co_X6_isWord yo_X6_isWord rfl kX6 (z_10 b) (rm_ok (by decide) (by decide)) rfl hl.1 rfl rfl (Nat.le_of_ble_eq_true rfl) dX6_readVoter_65 ⟨Nat.zero_le _, Nat.zero_le _⟩ (fun H locs hR => ?_)
        refine lv_if_eq (tgt := 96) hx hb dX6_readVoter_68 (by decide) (fun q68 => ?_) (fun q68 => ?_)
        · have hf := (br_if hf).1 q68
          exact wX6_readVoter_96 X hf hR (lv_sub hl [3, 2, 1, 0] rfl)
        · have hf := (br_if hf).2 q68
          refine lv_aload_n hx hb dX6_readVoter_71 rfl (lv_at hl 3 rfl) ?_
          obtain ⟨q72, c72, hf⟩ := br_b hf
          refine x_callV (k := 10) (As := []) (rest := []) (st1 := []) X hR (ctX6_next c72) ml_X6_45 im_X6_next se_X6_next in_X6 co_X6_next yo_X6_next rfl kX6 (z_10 b) (rm_ok (by decide) (by decide)) rfl hl.1 rfl rfl (Nat.le_of_ble_eq_true rfl) dX6_readVoter_72 ⟨Nat.zero_le _, Nat.zero_le _⟩ (fun H locs hR => ?_)
          refine lv_aload_n hx hb dX6_readVoter_75 rfl (lv_at hl 3 rfl) ?_
          refine lv_iconst (v := 1) hx hb dX6_readVoter_76 (by decide) ?_
          refine lv_bipush (v := 9) hx hb dX6_readVoter_77 (by decide) ?_
          obtain ⟨q79, c79, hf⟩ := br_b hf
          refine x_callV (k := 10) (As := [.int (1 : Int32), .int (9 : Int32)]) (rest := []) (st1 := [.int q79]) X hR (ctX6_isNumber c79) ml_X6_101 im_X6_isNumber se_X6_isNumber in_X6 co_X6_isNumber yo_X6_isNumber rfl kX6 (z_10 b) (rm_ok (by decide) (by decide)) rfl hl.1 rfl rfl (Nat.le_of_ble_eq_true rfl) dX6_readVoter_79 ⟨Nat.zero_le _, Nat.zero_le _⟩ (fun H locs hR => ?_)
          refine lv_if_ne (tgt := 87) hx hb dX6_readVoter_82 (by decide) (fun q82 => ?_) (fun q82 => ?_)
          · have hf := (br_if hf).2 q82
            refine lv_aload_n hx hb dX6_readVoter_87 rfl (lv_at hl 3 rfl) ?_
            refine x_get hx hb hown hts hK hR kX6 (z_10 b) (j := 6) (by decide) fl_X6_105 (v := .int (q72.1 10 6)) rfl dX6_readVoter_88 ?_
            refine lv_topi (fun v91 e91 => ?_)
            have hf := nx_at e91 hf
            refine lv_istore_n (lv' := [(3, .int v91), (2, .int v55), (1, .int v34), (0, .ref (eB E + 10))]) hx hb dX6_readVoter_91 rfl hl (by decide) rfl (fun ls hl => ?_)
            refine lv_aload_n hx hb dX6_readVoter_92 rfl (lv_at hl 3 rfl) ?_
            obtain ⟨q93, c93, hf⟩ := br_b hf
            refine x_callV (k := 10) (As := []) (rest := []) (st1 := []) X hR (ctX6_next c93) ml_X6_45 im_X6_next se_X6_next in_X6 co_X6_next yo_X6_next rfl kX6 (z_10 b) (rm_ok (by decide) (by decide)) rfl hl.1 rfl rfl (Nat.le_of_ble_eq_true rfl) dX6_readVoter_93 ⟨Nat.zero_le _, Nat.zero_le _⟩ (fun H locs hR => ?_)
            exact wX6_readVoter_96 X hf hR (lv_sub hl [3, 2, 1, 0] rfl)
          · have hf := (br_if hf).1 q82
            refine lv_iconst (v := 0) hx hb dX6_readVoter_85 (by decide) ?_
            cases hf
            exact x_zret hx hb hr hlk hR (by decide) dX6_readVoter_86
      · have hf := (br_if hf).1 q46
        refine lv_iconst (v := 0) hx hb dX6_readVoter_49 (by decide) ?_
        cases hf
        exact x_zret hx hb hr hlk hR (by decide) dX6_readVoter_50
    · have hf := (br_if hf).1 q25
      refine lv_iconst (v := 0) hx hb dX6_readVoter_28 (by decide) ?_
      cases hf
      exact x_zret hx hb hr hlk hR (by decide) dX6_readVoter_29
  · have hf := (br_if hf).2 q9
    refine lv_iconst (v := 0) hx hb dX6_readVoter_12 (by decide) ?_
    cases hf
    exact x_zret hx hb hr hlk hR (by decide) dX6_readVoter_13
theorem ctX6_readVoter {l : Launch} {E : Ge} {b : Bool} {M : Mem} {r : Int32} {M1 : Mem} (h : fX6_readVoter M = some (r, M1)) : CT l E yX6_readVoter cX6_readVoter 4 (some .boolean) 8 0 0 [.ref (eB E + 10)] (some (.int r)) (sh_ b) (nn b) M (sh_ b) (nn b) M1 := by
  refine met_of (by decide) (Nat.le_of_ble_eq_true rfl) ?_
  intro p e s m args below meth c X _ hR ls hl
  exact wX6_readVoter_0 X h hR hl
def fX6_readStretch (M : Mem) : Option (Int32 × Mem) := (fX6_next M).bind (fun q1 => (fX6_isNumber q1 (1 : Int32) (9 : Int32)).bind (fun q8 => (if q8 = 0 then some ((0 : Int32), q1) else nx (sI q1 10 8 (q1.1 10 6)) (fun M21 => (fX6_next M21).bind (fun q25 => (fX6_isNumber q25 (1 : Int32) (9 : Int32)).bind (fun q32 => (if q32 = 0 then some ((0 : Int32), q25) else nx (sI q25 10 9 (q25.1 10 6)) (fun M45 => (fX6_next M45).bind (fun q49 => (fX6_passSemicolon q49).bind (fun q53 => some ((q53.1 &&& 1), q53.2)))))))))))
set_option maxHeartbeats 4000000 in
set_option maxRecDepth 100000 in
theorem wX6_readStretch_0 {r : Int32} {M1 : Mem} (X : CX E p s m args c meth cX6_readStretch 1 (some .boolean) RX6) : ∀ {M : Mem} {H : Heap} {locs : List Loc} {ls : Array Slot}, fX6_readStretch M = some (r, M1) → Rl E (sh_ b) (nn b) s.heap M H locs → lv_has ls 1 [(0, .ref (eB E + 10))] → W p l e (rm 4 0 0) s m args below meth c H locs 0 0 (MQ below (qq E (some (.int r)) (sh_ b) (nn b) M1) args s 0 0 (fr E)) (F0 m 0 ls []) := by
  obtain ⟨hx, hb, hr, hml, hown, hts, hK, hN, hO, hlk, hbs⟩ := id X
  intro M H locs ls hf hR hl
  unfold fX6_readStretch at hf
  refine lv_aload_n hx hb dX6_readStretch_0 rfl (lv_at hl 0 rfl) ?_
  obtain ⟨q1, c1, hf⟩ := br_b hf
  refine x_callV (k := 10) (As := []) (rest := []) (st1 := []) X hR (ctX6_next c1) ml_X6_45 im_X6_next se_X6_next in_X6 co_X6_next yo_X6_next rfl kX6 (z_10 b) (rm_ok (by decide) (by decide)) rfl hl.1 rfl rfl (Nat.le_of_ble_eq_true rfl) dX6_readStretch_1 ⟨Nat.zero_le _, Nat.zero_le _⟩ (fun H locs hR => ?_)
  refine lv_aload_n hx hb dX6_readStretch_4 rfl (lv_at hl 0 rfl) ?_
  refine lv_iconst (v := 1) hx hb dX6_readStretch_5 (by decide) ?_
  refine lv_bipush (v := 9) hx hb dX6_readStretch_6 (by decide) ?_
  obtain ⟨q8, c8, hf⟩ := br_b hf
  refine x_callV (k := 10) (As := [.int (1 : Int32), .int (9 : Int32)]) (rest := []) (st1 := [.int q8]) X hR (ctX6_isNumber c8) ml_X6_101 im_X6_isNumber se_X6_isNumber in_X6 co_X6_isNumber yo_X6_isNumber rfl kX6 (z_10 b) (rm_ok (by decide) (by decide)) rfl hl.1 rfl rfl (Nat.le_of_ble_eq_true rfl) dX6_readStretch_8 ⟨Nat.zero_le _, Nat.zero_le _⟩ (fun H locs hR => ?_)
  refine lv_if_ne (tgt := 16) hx hb dX6_readStretch_11 (by decide) (fun q11 => ?_) (fun q11 => ?_)
  · have hf := (br_if hf).2 q11
    refine lv_aload_n hx hb dX6_readStretch_16 rfl (lv_at hl 0 rfl) ?_
    refine lv_aload_n hx hb dX6_readStretch_17 rfl (lv_at hl 0 rfl) ?_
    refine x_get hx hb hown hts hK hR kX6 (z_10 b) (j := 6) (by decide) fl_X6_105 (v := .int (q1.1 10 6)) rfl dX6_readStretch_18 ?_
    refine x_puti hx hb hown hts hK hR kX6 (z_10 b) (j := 8) (by decide) fl_X6_32 rfl rfl rfl rfl dX6_readStretch_21 (fun H locs hR => ?_)
    obtain ⟨M21, e21⟩ : ∃ y : Mem, y = (sI q1 10 8 (q1.1 10 6)) := ⟨_, rfl⟩
    have hf := nx_at e21 hf
    have hR : Rl E (sh_ b) (nn b) s.heap M21 H locs := by rw [e21]; exact hR
    refine lv_aload_n hx hb dX6_readStretch_24 rfl (lv_at hl 0 rfl) ?_
    obtain ⟨q25, c25, hf⟩ := br_b hf
    refine x_callV (k := 10) (As := []) (rest := []) (st1 := []) X hR (ctX6_next c25) ml_X6_45 im_X6_next se_X6_next in_X6 co_X6_next yo_X6_next rfl kX6 (z_10 b) (rm_ok (by decide) (by decide)) rfl hl.1 rfl rfl (Nat.le_of_ble_eq_true rfl) dX6_readStretch_25 ⟨Nat.zero_le _, Nat.zero_le _⟩ (fun H locs hR => ?_)
    refine lv_aload_n hx hb dX6_readStretch_28 rfl (lv_at hl 0 rfl) ?_
    refine lv_iconst (v := 1) hx hb dX6_readStretch_29 (by decide) ?_
    refine lv_bipush (v := 9) hx hb dX6_readStretch_30 (by decide) ?_
    obtain ⟨q32, c32, hf⟩ := br_b hf
    refine x_callV (k := 10) (As := [.int (1 : Int32), .int (9 : Int32)]) (rest := []) (st1 := [.int q32]) X hR (ctX6_isNumber c32) ml_X6_101 im_X6_isNumber se_X6_isNumber in_X6 co_X6_isNumber yo_X6_isNumber rfl kX6 (z_10 b) (rm_ok (by decide) (by decide)) rfl hl.1 rfl rfl (Nat.le_of_ble_eq_true rfl) dX6_readStretch_32 ⟨Nat.zero_le _, Nat.zero_le _⟩ (fun H locs hR => ?_)
    refine lv_if_ne (tgt := 40) hx hb dX6_readStretch_35 (by decide) (fun q35 => ?_) (fun q35 => ?_)
    · have hf := (br_if hf).2 q35
      refine lv_aload_n hx hb dX6_readStretch_40 rfl (lv_at hl 0 rfl) ?_
      refine lv_aload_n hx hb dX6_readStretch_41 rfl (lv_at hl 0 rfl) ?_
      refine x_get hx hb hown hts hK hR kX6 (z_10 b) (j := 6) (by decide) fl_X6_105 (v := .int (q25.1 10 6)) rfl dX6_readStretch_42 ?_
      refine x_puti hx hb hown hts hK hR kX6 (z_10 b) (j := 9) (by decide) fl_X6_35 rfl rfl rfl rfl dX6_readStretch_45 (fun H locs hR => ?_)
      obtain ⟨M45, e45⟩ : ∃ y : Mem, y = (sI q25 10 9 (q25.1 10 6)) := ⟨_, rfl⟩
      have hf := nx_at e45 hf
      have hR : Rl E (sh_ b) (nn b) s.heap M45 H locs := by rw [e45]; exact hR
      refine lv_aload_n hx hb dX6_readStretch_48 rfl (lv_at hl 0 rfl) ?_
      obtain ⟨q49, c49, hf⟩ := br_b hf
      refine x_callV (k := 10) (As := []) (rest := []) (st1 := []) X hR (ctX6_next c49) ml_X6_45 im_X6_next se_X6_next in_X6 co_X6_next yo_X6_next rfl kX6 (z_10 b) (rm_ok (by decide) (by decide)) rfl hl.1 rfl rfl (Nat.le_of_ble_eq_true rfl) dX6_readStretch_49 ⟨Nat.zero_le _, Nat.zero_le _⟩ (fun H locs hR => ?_)
      refine lv_aload_n hx hb dX6_readStretch_52 rfl (lv_at hl 0 rfl) ?_
      obtain ⟨q53, c53, hf⟩ := br_b hf
      refine x_callV (k := 10) (As := []) (rest := []) (st1 := [.int q53.1]) X hR (ctX6_passSemicolon c53) ml_X6_98 im_X6_passSemicolon se_X6_passSemicolon in_X6 co_X6_passSemicolon yo_X6_passSemicolon rfl kX6 (z_10 b) (rm_ok (by decide) (by decide)) rfl hl.1 rfl rfl (Nat.le_of_ble_eq_true rfl) dX6_readStretch_53 ⟨Nat.zero_le _, Nat.zero_le _⟩ (fun H locs hR => ?_)
      cases hf
      exact x_zret hx hb hr hlk hR rfl dX6_readStretch_56
    · have hf := (br_if hf).1 q35
      refine lv_iconst (v := 0) hx hb dX6_readStretch_38 (by decide) ?_
      cases hf
      exact x_zret hx hb hr hlk hR (by decide) dX6_readStretch_39
  · have hf := (br_if hf).1 q11
    refine lv_iconst (v := 0) hx hb dX6_readStretch_14 (by decide) ?_
    cases hf
    exact x_zret hx hb hr hlk hR (by decide) dX6_readStretch_15
theorem ctX6_readStretch {l : Launch} {E : Ge} {b : Bool} {M : Mem} {r : Int32} {M1 : Mem} (h : fX6_readStretch M = some (r, M1)) : CT l E yX6_readStretch cX6_readStretch 1 (some .boolean) 4 0 0 [.ref (eB E + 10)] (some (.int r)) (sh_ b) (nn b) M (sh_ b) (nn b) M1 := by
  refine met_of (by decide) (Nat.le_of_ble_eq_true rfl) ?_
  intro p e s m args below meth c X _ hR ls hl
  exact wX6_readStretch_0 X h hR hl
def fX6_readNear_74 (M : Mem) : Option (Int32 × Mem) := (fX6_next M).bind (fun q75 => (fX6_passSemicolon q75).bind (fun q79 => some ((q79.1 &&& 1), q79.2)))
def fX6_readNear (M : Mem) : Option (Int32 × Mem) := (fX6_next M).bind (fun q1 => (fX6_isWord q1 18).bind (fun q7 => (if q7 = 0 then (fX6_isWord q1 19).bind (fun q24 => (if q24 = 0 then (fX6_isWord q1 20).bind (fun q41 => (if q41 = 0 then (fX6_isWord q1 21).bind (fun q58 => (if q58 = 0 then some ((0 : Int32), q1) else nx (sI q1 10 7 (3 : Int32)) (fun M66 => fX6_readNear_74 M66))) else nx (sI q1 10 7 (2 : Int32)) (fun M49 => fX6_readNear_74 M49))) else nx (sI q1 10 7 (1 : Int32)) (fun M32 => fX6_readNear_74 M32))) else nx (sI q1 10 7 (0 : Int32)) (fun M15 => fX6_readNear_74 M15))))
set_option maxHeartbeats 4000000 in
set_option maxRecDepth 100000 in
theorem wX6_readNear_74 {r : Int32} {M1 : Mem} (X : CX E p s m args c meth cX6_readNear 1 (some .boolean) RX6) : ∀ {M : Mem} {H : Heap} {locs : List Loc} {ls : Array Slot}, fX6_readNear_74 M = some (r, M1) → Rl E (sh_ b) (nn b) s.heap M H locs → lv_has ls 1 [(0, .ref (eB E + 10))] → W p l e (rm 8 0 0) s m args below meth c H locs 0 0 (MQ below (qq E (some (.int r)) (sh_ b) (nn b) M1) args s 0 0 (fr E)) (F0 m 74 ls []) := by
  obtain ⟨hx, hb, hr, hml, hown, hts, hK, hN, hO, hlk, hbs⟩ := id X
  intro M H locs ls hf hR hl
  unfold fX6_readNear_74 at hf
  refine lv_aload_n hx hb dX6_readNear_74 rfl (lv_at hl 0 rfl) ?_
  obtain ⟨q75, c75, hf⟩ := br_b hf
  refine x_callV (k := 10) (As := []) (rest := []) (st1 := []) X hR (ctX6_next c75) ml_X6_45 im_X6_next se_X6_next in_X6 co_X6_next yo_X6_next rfl kX6 (z_10 b) (rm_ok (by decide) (by decide)) rfl hl.1 rfl rfl (Nat.le_of_ble_eq_true rfl) dX6_readNear_75 ⟨Nat.zero_le _, Nat.zero_le _⟩ (fun H locs hR => ?_)
  refine lv_aload_n hx hb dX6_readNear_78 rfl (lv_at hl 0 rfl) ?_
  obtain ⟨q79, c79, hf⟩ := br_b hf
  refine x_callV (k := 10) (As := []) (rest := []) (st1 := [.int q79.1]) X hR (ctX6_passSemicolon c79) ml_X6_98 im_X6_passSemicolon se_X6_passSemicolon in_X6 co_X6_passSemicolon yo_X6_passSemicolon rfl kX6 (z_10 b) (rm_ok (by decide) (by decide)) rfl hl.1 rfl rfl (Nat.le_of_ble_eq_true rfl) dX6_readNear_79 ⟨Nat.zero_le _, Nat.zero_le _⟩ (fun H locs hR => ?_)
  cases hf
  exact x_zret hx hb hr hlk hR rfl dX6_readNear_82
set_option maxHeartbeats 4000000 in
set_option maxRecDepth 100000 in
theorem wX6_readNear_0 {r : Int32} {M1 : Mem} (X : CX E p s m args c meth cX6_readNear 1 (some .boolean) RX6) : ∀ {M : Mem} {H : Heap} {locs : List Loc} {ls : Array Slot}, fX6_readNear M = some (r, M1) → Rl E (sh_ b) (nn b) s.heap M H locs → lv_has ls 1 [(0, .ref (eB E + 10))] → W p l e (rm 8 0 0) s m args below meth c H locs 0 0 (MQ below (qq E (some (.int r)) (sh_ b) (nn b) M1) args s 0 0 (fr E)) (F0 m 0 ls []) := by
  obtain ⟨hx, hb, hr, hml, hown, hts, hK, hN, hO, hlk, hbs⟩ := id X
  intro M H locs ls hf hR hl
  unfold fX6_readNear at hf
  refine lv_aload_n hx hb dX6_readNear_0 rfl (lv_at hl 0 rfl) ?_
  obtain ⟨q1, c1, hf⟩ := br_b hf
  refine x_callV (k := 10) (As := []) (rest := []) (st1 := []) X hR (ctX6_next c1) ml_X6_45 im_X6_next se_X6_next in_X6 co_X6_next yo_X6_next rfl kX6 (z_10 b) (rm_ok (by decide) (by decide)) rfl hl.1 rfl rfl (Nat.le_of_ble_eq_true rfl) dX6_readNear_1 ⟨Nat.zero_le _, Nat.zero_le _⟩ (fun H locs hR => ?_)
  refine lv_aload_n hx hb dX6_readNear_4 rfl (lv_at hl 0 rfl) ?_
  refine va_ldcS hx hb hown (hN.1 18 (by decide)) dX6_readNear_5 ?_
  obtain ⟨q7, c7, hf⟩ := br_b hf
  refine x_callV (k := 10) (As := [.ref (E.2.2.1 18)]) (rest := []) (st1 := [.int q7]) X hR (ctX6_isWord (by decide : 18 < 26) c7) ml_X6_63 im_X6_isWord se_X6_isWord in_X6 co_X6_isWord yo_X6_isWord rfl kX6 (z_10 b) (rm_ok (by decide) (by decide)) rfl hl.1 rfl rfl (Nat.le_of_ble_eq_true rfl) dX6_readNear_7 ⟨Nat.zero_le _, Nat.zero_le _⟩ (fun H locs hR => ?_)
  refine lv_if_eq (tgt := 21) hx hb dX6_readNear_10 (by decide) (fun q10 => ?_) (fun q10 => ?_)
  · have hf := (br_if hf).1 q10
    refine lv_aload_n hx hb dX6_readNear_21 rfl (lv_at hl 0 rfl) ?_
    refine va_ldcS hx hb hown (hN.1 19 (by decide)) dX6_readNear_22 ?_
    obtain ⟨q24, c24, hf⟩ := br_b hf
    refine x_callV (k := 10) (As := [.ref (E.2.2.1 19)]) (rest := []) (st1 := [.int q24]) X hR (ctX6_isWord (by decide : 19 < 26) c24) ml_X6_63 im_X6_isWord se_X6_isWord in_X6 co_X6_isWord yo_X6_isWord rfl kX6 (z_10 b) (rm_ok (by decide) (by decide)) rfl hl.1 rfl rfl (Nat.le_of_ble_eq_true rfl) dX6_readNear_24 ⟨Nat.zero_le _, Nat.zero_le _⟩ (fun H locs hR => ?_)
    refine lv_if_eq (tgt := 38) hx hb dX6_readNear_27 (by decide) (fun q27 => ?_) (fun q27 => ?_)
    · have hf := (br_if hf).1 q27
      refine lv_aload_n hx hb dX6_readNear_38 rfl (lv_at hl 0 rfl) ?_
      refine va_ldcS hx hb hown (hN.1 20 (by decide)) dX6_readNear_39 ?_
      obtain ⟨q41, c41, hf⟩ := br_b hf
      refine x_callV (k := 10) (As := [.ref (E.2.2.1 20)]) (rest := []) (st1 := [.int q41]) X hR (ctX6_isWord (by decide : 20 < 26) c41) ml_X6_63 im_X6_isWord se_X6_isWord in_X6 co_X6_isWord yo_X6_isWord rfl kX6 (z_10 b) (rm_ok (by decide) (by decide)) rfl hl.1 rfl rfl (Nat.le_of_ble_eq_true rfl) dX6_readNear_41 ⟨Nat.zero_le _, Nat.zero_le _⟩ (fun H locs hR => ?_)
      refine lv_if_eq (tgt := 55) hx hb dX6_readNear_44 (by decide) (fun q44 => ?_) (fun q44 => ?_)
      · have hf := (br_if hf).1 q44
        refine lv_aload_n hx hb dX6_readNear_55 rfl (lv_at hl 0 rfl) ?_
        refine va_ldcS hx hb hown (hN.1 21 (by decide)) dX6_readNear_56 ?_
        obtain ⟨q58, c58, hf⟩ := br_b hf
        refine x_callV (k := 10) (As := [.ref (E.2.2.1 21)]) (rest := []) (st1 := [.int q58]) X hR (ctX6_isWord (by decide : 21 < 26) c58) ml_X6_63 im_X6_isWord se_X6_isWord in_X6 co_X6_isWord yo_X6_isWord rfl kX6 (z_10 b) (rm_ok (by decide) (by decide)) rfl hl.1 rfl rfl (Nat.le_of_ble_eq_true rfl) dX6_readNear_58 ⟨Nat.zero_le _, Nat.zero_le _⟩ (fun H locs hR => ?_)
        refine lv_if_eq (tgt := 72) hx hb dX6_readNear_61 (by decide) (fun q61 => ?_) (fun q61 => ?_)
        · have hf := (br_if hf).1 q61
          refine lv_iconst (v := 0) hx hb dX6_readNear_72 (by decide) ?_
          cases hf
          exact x_zret hx hb hr hlk hR (by decide) dX6_readNear_73
        · have hf := (br_if hf).2 q61
          refine lv_aload_n hx hb dX6_readNear_64 rfl (lv_at hl 0 rfl) ?_
          refine lv_iconst (v := 3) hx hb dX6_readNear_65 (by decide) ?_
          refine x_puti hx hb hown hts hK hR kX6 (z_10 b) (j := 7) (by decide) fl_X6_29 rfl rfl rfl rfl dX6_readNear_66 (fun H locs hR => ?_)
          obtain ⟨M66, e66⟩ : ∃ y : Mem, y = (sI q1 10 7 (3 : Int32)) := ⟨_, rfl⟩
          have hf := nx_at e66 hf
          have hR : Rl E (sh_ b) (nn b) s.heap M66 H locs := by rw [e66]; exact hR
          refine lv_goto (tgt := 74) hx hb dX6_readNear_69 (by decide) ?_
          exact wX6_readNear_74 X hf hR hl
      · have hf := (br_if hf).2 q44
        refine lv_aload_n hx hb dX6_readNear_47 rfl (lv_at hl 0 rfl) ?_
        refine lv_iconst (v := 2) hx hb dX6_readNear_48 (by decide) ?_
        refine x_puti hx hb hown hts hK hR kX6 (z_10 b) (j := 7) (by decide) fl_X6_29 rfl rfl rfl rfl dX6_readNear_49 (fun H locs hR => ?_)
        obtain ⟨M49, e49⟩ : ∃ y : Mem, y = (sI q1 10 7 (2 : Int32)) := ⟨_, rfl⟩
        have hf := nx_at e49 hf
        have hR : Rl E (sh_ b) (nn b) s.heap M49 H locs := by rw [e49]; exact hR
        refine lv_goto (tgt := 74) hx hb dX6_readNear_52 (by decide) ?_
        exact wX6_readNear_74 X hf hR hl
    · have hf := (br_if hf).2 q27
      refine lv_aload_n hx hb dX6_readNear_30 rfl (lv_at hl 0 rfl) ?_
      refine lv_iconst (v := 1) hx hb dX6_readNear_31 (by decide) ?_
      refine x_puti hx hb hown hts hK hR kX6 (z_10 b) (j := 7) (by decide) fl_X6_29 rfl rfl rfl rfl dX6_readNear_32 (fun H locs hR => ?_)
      obtain ⟨M32, e32⟩ : ∃ y : Mem, y = (sI q1 10 7 (1 : Int32)) := ⟨_, rfl⟩
      have hf := nx_at e32 hf
      have hR : Rl E (sh_ b) (nn b) s.heap M32 H locs := by rw [e32]; exact hR
      refine lv_goto (tgt := 74) hx hb dX6_readNear_35 (by decide) ?_
      exact wX6_readNear_74 X hf hR hl
  · have hf := (br_if hf).2 q10
    refine lv_aload_n hx hb dX6_readNear_13 rfl (lv_at hl 0 rfl) ?_
    refine lv_iconst (v := 0) hx hb dX6_readNear_14 (by decide) ?_
    refine x_puti hx hb hown hts hK hR kX6 (z_10 b) (j := 7) (by decide) fl_X6_29 rfl rfl rfl rfl dX6_readNear_15 (fun H locs hR => ?_)
    obtain ⟨M15, e15⟩ : ∃ y : Mem, y = (sI q1 10 7 (0 : Int32)) := ⟨_, rfl⟩
    have hf := nx_at e15 hf
    have hR : Rl E (sh_ b) (nn b) s.heap M15 H locs := by rw [e15]; exact hR
    refine lv_goto (tgt := 74) hx hb dX6_readNear_18 (by decide) ?_
    exact wX6_readNear_74 X hf hR hl
theorem ctX6_readNear {l : Launch} {E : Ge} {b : Bool} {M : Mem} {r : Int32} {M1 : Mem} (h : fX6_readNear M = some (r, M1)) : CT l E yX6_readNear cX6_readNear 1 (some .boolean) 8 0 0 [.ref (eB E + 10)] (some (.int r)) (sh_ b) (nn b) M (sh_ b) (nn b) M1 := by
  refine met_of (by decide) (Nat.le_of_ble_eq_true rfl) ?_
  intro p e s m args below meth c X _ hR ls hl
  exact wX6_readNear_0 X h hR hl
def fX6_readOne_77 (s0 : Int32) (M : Mem) : Option (Int32 × Mem) := some ((s0 &&& 1), M)
def fX6_readOne_76 (M : Mem) : Option (Int32 × Mem) := fX6_readOne_77 (0 : Int32) M
def fX6_readOne (M : Mem) : Option (Int32 × Mem) := (fX6_isWord M 13).bind (fun q3 => (if q3 = 0 then (fX6_isWord M 14).bind (fun q17 => (if q17 = 0 then (fX6_isWord M 15).bind (fun q31 => (if q31 = 0 then (fX6_isWord M 16).bind (fun q45 => (if q45 = 0 then (fX6_isWord M 17).bind (fun q59 => (if q59 = 0 then fX6_readOne_76 M else (fX6_readBar M).bind (fun q66 => (if q66.1 = 0 then fX6_readOne_76 (q66.2) else fX6_readOne_77 (1 : Int32) (q66.2))))) else (fX6_readPlace M).bind (fun q52 => some ((q52.1 &&& 1), q52.2)))) else (fX6_readVoter M).bind (fun q38 => some ((q38.1 &&& 1), q38.2)))) else (fX6_readStretch M).bind (fun q24 => some ((q24.1 &&& 1), q24.2)))) else (fX6_readNear M).bind (fun q10 => some ((q10.1 &&& 1), q10.2))))
set_option maxHeartbeats 4000000 in
set_option maxRecDepth 100000 in
theorem wX6_readOne_77 {r : Int32} {M1 : Mem} (X : CX E p s m args c meth cX6_readOne 1 (some .boolean) RX6) : ∀ {s0 : Int32} {M : Mem} {H : Heap} {locs : List Loc} {ls : Array Slot}, fX6_readOne_77 s0 M = some (r, M1) → Rl E (sh_ b) (nn b) s.heap M H locs → lv_has ls 1 [] → W p l e (rm 9 0 0) s m args below meth c H locs 0 0 (MQ below (qq E (some (.int r)) (sh_ b) (nn b) M1) args s 0 0 (fr E)) (F0 m 77 ls [.int s0]) := by
  obtain ⟨hx, hb, hr, hml, hown, hts, hK, hN, hO, hlk, hbs⟩ := id X
  intro s0 M H locs ls hf hR hl
  unfold fX6_readOne_77 at hf
  cases hf
  exact x_zret hx hb hr hlk hR rfl dX6_readOne_77
set_option maxHeartbeats 4000000 in
set_option maxRecDepth 100000 in
theorem wX6_readOne_76 {r : Int32} {M1 : Mem} (X : CX E p s m args c meth cX6_readOne 1 (some .boolean) RX6) : ∀ {M : Mem} {H : Heap} {locs : List Loc} {ls : Array Slot}, fX6_readOne_76 M = some (r, M1) → Rl E (sh_ b) (nn b) s.heap M H locs → lv_has ls 1 [] → W p l e (rm 9 0 0) s m args below meth c H locs 0 0 (MQ below (qq E (some (.int r)) (sh_ b) (nn b) M1) args s 0 0 (fr E)) (F0 m 76 ls []) := by
  obtain ⟨hx, hb, hr, hml, hown, hts, hK, hN, hO, hlk, hbs⟩ := id X
  intro M H locs ls hf hR hl
  unfold fX6_readOne_76 at hf
  refine lv_iconst (v := 0) hx hb dX6_readOne_76 (by decide) ?_
  exact wX6_readOne_77 X hf hR hl
set_option maxHeartbeats 4000000 in
set_option maxRecDepth 100000 in
theorem wX6_readOne_0 {r : Int32} {M1 : Mem} (X : CX E p s m args c meth cX6_readOne 1 (some .boolean) RX6) : ∀ {M : Mem} {H : Heap} {locs : List Loc} {ls : Array Slot}, fX6_readOne M = some (r, M1) → Rl E (sh_ b) (nn b) s.heap M H locs → lv_has ls 1 [(0, .ref (eB E + 10))] → W p l e (rm 9 0 0) s m args below meth c H locs 0 0 (MQ below (qq E (some (.int r)) (sh_ b) (nn b) M1) args s 0 0 (fr E)) (F0 m 0 ls []) := by
  obtain ⟨hx, hb, hr, hml, hown, hts, hK, hN, hO, hlk, hbs⟩ := id X
  intro M H locs ls hf hR hl
  unfold fX6_readOne at hf
  refine lv_aload_n hx hb dX6_readOne_0 rfl (lv_at hl 0 rfl) ?_
  refine va_ldcS hx hb hown (hN.1 13 (by decide)) dX6_readOne_1 ?_
  obtain ⟨q3, c3, hf⟩ := br_b hf
  refine x_callV (k := 10) (As := [.ref (E.2.2.1 13)]) (rest := []) (st1 := [.int q3]) X hR (ctX6_isWord (by decide : 13 < 26) c3) ml_X6_63 im_X6_isWord se_X6_isWord in_X6 co_X6_isWord yo_X6_isWord rfl kX6 (z_10 b) (rm_ok (by decide) (by decide)) rfl hl.1 rfl rfl (Nat.le_of_ble_eq_true rfl) dX6_readOne_3 ⟨Nat.zero_le _, Nat.zero_le _⟩ (fun H locs hR => ?_)
  refine lv_if_eq (tgt := 14) hx hb dX6_readOne_6 (by decide) (fun q6 => ?_) (fun q6 => ?_)
  · have hf := (br_if hf).1 q6
    refine lv_aload_n hx hb dX6_readOne_14 rfl (lv_at hl 0 rfl) ?_
    refine va_ldcS hx hb hown (hN.1 14 (by decide)) dX6_readOne_15 ?_
    obtain ⟨q17, c17, hf⟩ := br_b hf
    refine x_callV (k := 10) (As := [.ref (E.2.2.1 14)]) (rest := []) (st1 := [.int q17]) X hR (ctX6_isWord (by decide : 14 < 26) c17) ml_X6_63 im_X6_isWord se_X6_isWord in_X6 co_X6_isWord yo_X6_isWord rfl kX6 (z_10 b) (rm_ok (by decide) (by decide)) rfl hl.1 rfl rfl (Nat.le_of_ble_eq_true rfl) dX6_readOne_17 ⟨Nat.zero_le _, Nat.zero_le _⟩ (fun H locs hR => ?_)
    refine lv_if_eq (tgt := 28) hx hb dX6_readOne_20 (by decide) (fun q20 => ?_) (fun q20 => ?_)
    · have hf := (br_if hf).1 q20
      refine lv_aload_n hx hb dX6_readOne_28 rfl (lv_at hl 0 rfl) ?_
      refine va_ldcS hx hb hown (hN.1 15 (by decide)) dX6_readOne_29 ?_
      obtain ⟨q31, c31, hf⟩ := br_b hf
      refine x_callV (k := 10) (As := [.ref (E.2.2.1 15)]) (rest := []) (st1 := [.int q31]) X hR (ctX6_isWord (by decide : 15 < 26) c31) ml_X6_63 im_X6_isWord se_X6_isWord in_X6 co_X6_isWord yo_X6_isWord rfl kX6 (z_10 b) (rm_ok (by decide) (by decide)) rfl hl.1 rfl rfl (Nat.le_of_ble_eq_true rfl) dX6_readOne_31 ⟨Nat.zero_le _, Nat.zero_le _⟩ (fun H locs hR => ?_)
      refine lv_if_eq (tgt := 42) hx hb dX6_readOne_34 (by decide) (fun q34 => ?_) (fun q34 => ?_)
      · have hf := (br_if hf).1 q34
        refine lv_aload_n hx hb dX6_readOne_42 rfl (lv_at hl 0 rfl) ?_
        refine va_ldcS hx hb hown (hN.1 16 (by decide)) dX6_readOne_43 ?_
        obtain ⟨q45, c45, hf⟩ := br_b hf
        refine x_callV (k := 10) (As := [.ref (E.2.2.1 16)]) (rest := []) (st1 := [.int q45]) X hR (ctX6_isWord (by decide : 16 < 26) c45) ml_X6_63 im_X6_isWord se_X6_isWord in_X6 co_X6_isWord yo_X6_isWord rfl kX6 (z_10 b) (rm_ok (by decide) (by decide)) rfl hl.1 rfl rfl (Nat.le_of_ble_eq_true rfl) dX6_readOne_45 ⟨Nat.zero_le _, Nat.zero_le _⟩ (fun H locs hR => ?_)
        refine lv_if_eq (tgt := 56) hx hb dX6_readOne_48 (by decide) (fun q48 => ?_) (fun q48 => ?_)
        · have hf := (br_if hf).1 q48
          refine lv_aload_n hx hb dX6_readOne_56 rfl (lv_at hl 0 rfl) ?_
          refine va_ldcS hx hb hown (hN.1 17 (by decide)) dX6_readOne_57 ?_
          obtain ⟨q59, c59, hf⟩ := br_b hf
          refine x_callV (k := 10) (As := [.ref (E.2.2.1 17)]) (rest := []) (st1 := [.int q59]) X hR (ctX6_isWord (by decide : 17 < 26) c59) ml_X6_63 im_X6_isWord se_X6_isWord in_X6 co_X6_isWord yo_X6_isWord rfl kX6 (z_10 b) (rm_ok (by decide) (by decide)) rfl hl.1 rfl rfl (Nat.le_of_ble_eq_true rfl) dX6_readOne_59 ⟨Nat.zero_le _, Nat.zero_le _⟩ (fun H locs hR => ?_)
          refine lv_if_eq (tgt := 76) hx hb dX6_readOne_62 (by decide) (fun q62 => ?_) (fun q62 => ?_)
          · have hf := (br_if hf).1 q62
            exact wX6_readOne_76 X hf hR (lv_sub hl [] rfl)
          · have hf := (br_if hf).2 q62
            refine lv_aload_n hx hb dX6_readOne_65 rfl (lv_at hl 0 rfl) ?_
            obtain ⟨q66, c66, hf⟩ := br_b hf
            refine x_callV (k := 10) (As := []) (rest := []) (st1 := [.int q66.1]) X hR (ctX6_readBar c66) ml_X6_87 im_X6_readBar se_X6_readBar in_X6 co_X6_readBar yo_X6_readBar rfl kX6 (z_10 b) (rm_ok (by decide) (by decide)) rfl hl.1 rfl rfl (Nat.le_of_ble_eq_true rfl) dX6_readOne_66 ⟨Nat.zero_le _, Nat.zero_le _⟩ (fun H locs hR => ?_)
            refine lv_if_eq (tgt := 76) hx hb dX6_readOne_69 (by decide) (fun q69 => ?_) (fun q69 => ?_)
            · have hf := (br_if hf).1 q69
              exact wX6_readOne_76 X hf hR (lv_sub hl [] rfl)
            · have hf := (br_if hf).2 q69
              refine lv_iconst (v := 1) hx hb dX6_readOne_72 (by decide) ?_
              refine lv_goto (tgt := 77) hx hb dX6_readOne_73 (by decide) ?_
              exact wX6_readOne_77 X hf hR (lv_sub hl [] rfl)
        · have hf := (br_if hf).2 q48
          refine lv_aload_n hx hb dX6_readOne_51 rfl (lv_at hl 0 rfl) ?_
          obtain ⟨q52, c52, hf⟩ := br_b hf
          refine x_callV (k := 10) (As := []) (rest := []) (st1 := [.int q52.1]) X hR (ctX6_readPlace c52) ml_X6_82 im_X6_readPlace se_X6_readPlace in_X6 co_X6_readPlace yo_X6_readPlace rfl kX6 (z_10 b) (rm_ok (by decide) (by decide)) rfl hl.1 rfl rfl (Nat.le_of_ble_eq_true rfl) dX6_readOne_52 ⟨Nat.zero_le _, Nat.zero_le _⟩ (fun H locs hR => ?_)
          cases hf
          exact x_zret hx hb hr hlk hR rfl dX6_readOne_55
      · have hf := (br_if hf).2 q34
        refine lv_aload_n hx hb dX6_readOne_37 rfl (lv_at hl 0 rfl) ?_
        obtain ⟨q38, c38, hf⟩ := br_b hf
        refine x_callV (k := 10) (As := []) (rest := []) (st1 := [.int q38.1]) X hR (ctX6_readVoter c38) ml_X6_77 im_X6_readVoter se_X6_readVoter in_X6 co_X6_readVoter yo_X6_readVoter rfl kX6 (z_10 b) (rm_ok (by decide) (by decide)) rfl hl.1 rfl rfl (Nat.le_of_ble_eq_true rfl) dX6_readOne_38 ⟨Nat.zero_le _, Nat.zero_le _⟩ (fun H locs hR => ?_)
        cases hf
        exact x_zret hx hb hr hlk hR rfl dX6_readOne_41
    · have hf := (br_if hf).2 q20
      refine lv_aload_n hx hb dX6_readOne_23 rfl (lv_at hl 0 rfl) ?_
      obtain ⟨q24, c24, hf⟩ := br_b hf
      refine x_callV (k := 10) (As := []) (rest := []) (st1 := [.int q24.1]) X hR (ctX6_readStretch c24) ml_X6_72 im_X6_readStretch se_X6_readStretch in_X6 co_X6_readStretch yo_X6_readStretch rfl kX6 (z_10 b) (rm_ok (by decide) (by decide)) rfl hl.1 rfl rfl (Nat.le_of_ble_eq_true rfl) dX6_readOne_24 ⟨Nat.zero_le _, Nat.zero_le _⟩ (fun H locs hR => ?_)
      cases hf
      exact x_zret hx hb hr hlk hR rfl dX6_readOne_27
  · have hf := (br_if hf).2 q6
    refine lv_aload_n hx hb dX6_readOne_9 rfl (lv_at hl 0 rfl) ?_
    obtain ⟨q10, c10, hf⟩ := br_b hf
    refine x_callV (k := 10) (As := []) (rest := []) (st1 := [.int q10.1]) X hR (ctX6_readNear c10) ml_X6_67 im_X6_readNear se_X6_readNear in_X6 co_X6_readNear yo_X6_readNear rfl kX6 (z_10 b) (rm_ok (by decide) (by decide)) rfl hl.1 rfl rfl (Nat.le_of_ble_eq_true rfl) dX6_readOne_10 ⟨Nat.zero_le _, Nat.zero_le _⟩ (fun H locs hR => ?_)
    cases hf
    exact x_zret hx hb hr hlk hR rfl dX6_readOne_13
theorem ctX6_readOne {l : Launch} {E : Ge} {b : Bool} {M : Mem} {r : Int32} {M1 : Mem} (h : fX6_readOne M = some (r, M1)) : CT l E yX6_readOne cX6_readOne 1 (some .boolean) 9 0 0 [.ref (eB E + 10)] (some (.int r)) (sh_ b) (nn b) M (sh_ b) (nn b) M1 := by
  refine met_of (by decide) (Nat.le_of_ble_eq_true rfl) ?_
  intro p e s m args below meth c X _ hR ls hl
  exact wX6_readOne_0 X h hR hl
def fX6_findFault_38 (k59 : Mem → Option (Int32 × Mem)) (k70 : Mem → Option (Int32 × Mem)) : Nat → Int32 → Mem → Option (Int32 × Mem)
  | 0, _, _ => none
  | n + 1, x1, M => (if (600 : Int32) ≤ x1 then k70 M else (if (M.1 10 3) = 0 then k70 M else (fX6_readOne M).bind (fun q53 => (if q53.1 = 0 then k59 (q53.2) else nx (x1 + (1 : Int32)) (fun v64 => fX6_findFault_38 k59 k70 n v64 (q53.2))))))
def fX6_findFault_59 (M : Mem) : Option (Int32 × Mem) := some ((M.1 10 4), M)
def fX6_findFault_95 (s0 : Int32) (M : Mem) : Option (Int32 × Mem) := some (s0, M)
def fX6_findFault_91 (M : Mem) : Option (Int32 × Mem) := fX6_findFault_95 ((M.1 10 4)) M
def fX6_findFault_70 (M : Mem) : Option (Int32 × Mem) := (if (M.1 10 3) = 0 then (if (M.1 12 0) ≤ 0 then fX6_findFault_91 M else fX6_findFault_95 (-1 : Int32) M) else fX6_findFault_91 M)
def fX6_findFault (M : Mem) : Option (Int32 × Mem) := (fX8_clear_d M).bind (fun q4 => nx (sI q4 10 7 (0 : Int32)) (fun M9 => nx (sI M9 10 8 (1 : Int32)) (fun M14 => nx (sI M14 10 9 (1 : Int32)) (fun M19 => nx (sI M19 10 10 (0 : Int32)) (fun M24 => nx (sI M24 10 5 (0 : Int32)) (fun M29 => (fX6_next M29).bind (fun q33 => fX6_findFault_38 fX6_findFault_59 fX6_findFault_70 FU (0 : Int32) q33)))))))
set_option maxHeartbeats 4000000 in
set_option maxRecDepth 100000 in
theorem wX6_findFault_38 {r : Int32} {M1 : Mem} {k59 : Mem → Option (Int32 × Mem)} {k70 : Mem → Option (Int32 × Mem)} (X : CX E p s m args c meth cX6_findFault 2 (some .int) RX6) (hk59 : ∀ {M : Mem} {H : Heap} {locs : List Loc} {ls : Array Slot}, k59 M = some (r, M1) → Rl E (sh_ b) (nn b) s.heap M H locs → lv_has ls 2 [(0, .ref (eB E + 10))] → W p l e (rm 10 0 0) s m args below meth c H locs 0 0 (MQ below (qq E (some (.int r)) (sh_ b) (nn b) M1) args s 0 0 (fr E)) (F0 m 59 ls [])) (hk70 : ∀ {M : Mem} {H : Heap} {locs : List Loc} {ls : Array Slot}, k70 M = some (r, M1) → Rl E (sh_ b) (nn b) s.heap M H locs → lv_has ls 2 [(0, .ref (eB E + 10))] → W p l e (rm 10 0 0) s m args below meth c H locs 0 0 (MQ below (qq E (some (.int r)) (sh_ b) (nn b) M1) args s 0 0 (fr E)) (F0 m 70 ls [])) : ∀ (n : Nat) {x1 : Int32} {M : Mem} {H : Heap} {locs : List Loc} {ls : Array Slot}, fX6_findFault_38 k59 k70 n x1 M = some (r, M1) → Rl E (sh_ b) (nn b) s.heap M H locs → lv_has ls 2 [(0, .ref (eB E + 10)), (1, .int x1)] → W p l e (rm 10 0 0) s m args below meth c H locs 0 0 (MQ below (qq E (some (.int r)) (sh_ b) (nn b) M1) args s 0 0 (fr E)) (F0 m 38 ls []) := by
  obtain ⟨hx, hb, hr, hml, hown, hts, hK, hN, hO, hlk, hbs⟩ := id X
  intro n
  induction n with
  | zero =>
    intro x1 M H locs ls hf hR hl
    exact absurd (show none = some _ from hf) (fun h => by cases h)
  | succ n ih =>
    intro x1 M H locs ls hf hR hl
    rw [fX6_findFault_38] at hf
    refine lv_iload_n hx hb dX6_findFault_38 rfl (lv_at hl 1 rfl) ?_
    refine lv_sipush (v := 600) hx hb dX6_findFault_39 (by decide) ?_
    refine lv_icmp_ge (tgt := 70) hx hb dX6_findFault_42 (by decide) (fun q42 => ?_) (fun q42 => ?_)
    · have hf := (br_if hf).1 q42
      exact hk70 hf hR (lv_sub hl [0] rfl)
    · have hf := (br_if hf).2 q42
      refine lv_aload_n hx hb dX6_findFault_45 rfl (lv_at hl 0 rfl) ?_
      refine x_get hx hb hown hts hK hR kX6 (z_10 b) (j := 3) (by decide) fl_X6_48 (v := .int (M.1 10 3)) rfl dX6_findFault_46 ?_
      refine lv_if_eq (tgt := 70) hx hb dX6_findFault_49 (by decide) (fun q49 => ?_) (fun q49 => ?_)
      · have hf := (br_if hf).1 q49
        exact hk70 hf hR (lv_sub hl [0] rfl)
      · have hf := (br_if hf).2 q49
        refine lv_aload_n hx hb dX6_findFault_52 rfl (lv_at hl 0 rfl) ?_
        obtain ⟨q53, c53, hf⟩ := br_b hf
        refine x_callV (k := 10) (As := []) (rest := []) (st1 := [.int q53.1]) X hR (ctX6_readOne c53) ml_X6_51 im_X6_readOne se_X6_readOne in_X6 co_X6_readOne yo_X6_readOne rfl kX6 (z_10 b) (rm_ok (by decide) (by decide)) rfl hl.1 rfl rfl (Nat.le_of_ble_eq_true rfl) dX6_findFault_53 ⟨Nat.zero_le _, Nat.zero_le _⟩ (fun H locs hR => ?_)
        refine lv_if_ne (tgt := 64) hx hb dX6_findFault_56 (by decide) (fun q56 => ?_) (fun q56 => ?_)
        · have hf := (br_if hf).2 q56
          obtain ⟨v64, e64⟩ : ∃ y : Int32, y = (x1 + (1 : Int32)) := ⟨_, rfl⟩
          have hf := nx_at e64 hf
          refine lv_iinc (v := v64) (lv' := [(1, .int v64), (0, .ref (eB E + 10))]) hx hb dX6_findFault_64 hl (k := 1) rfl (by rw [e64]; rfl) (by decide) rfl (fun ls hl => ?_)
          refine lv_goto (tgt := 38) hx hb dX6_findFault_67 (by decide) ?_
          exact ih hf hR (lv_sub hl [1, 0] rfl)
        · have hf := (br_if hf).1 q56
          exact hk59 hf hR (lv_sub hl [0] rfl)
set_option maxHeartbeats 4000000 in
set_option maxRecDepth 100000 in
theorem wX6_findFault_59 {r : Int32} {M1 : Mem} (X : CX E p s m args c meth cX6_findFault 2 (some .int) RX6) : ∀ {M : Mem} {H : Heap} {locs : List Loc} {ls : Array Slot}, fX6_findFault_59 M = some (r, M1) → Rl E (sh_ b) (nn b) s.heap M H locs → lv_has ls 2 [(0, .ref (eB E + 10))] → W p l e (rm 10 0 0) s m args below meth c H locs 0 0 (MQ below (qq E (some (.int r)) (sh_ b) (nn b) M1) args s 0 0 (fr E)) (F0 m 59 ls []) := by
  obtain ⟨hx, hb, hr, hml, hown, hts, hK, hN, hO, hlk, hbs⟩ := id X
  intro M H locs ls hf hR hl
  unfold fX6_findFault_59 at hf
  refine lv_aload_n hx hb dX6_findFault_59 rfl (lv_at hl 0 rfl) ?_
  refine x_get hx hb hown hts hK hR kX6 (z_10 b) (j := 4) (by decide) fl_X6_55 (v := .int (M.1 10 4)) rfl dX6_findFault_60 ?_
  cases hf
  exact x_iret hx hb hr hlk hR dX6_findFault_63
set_option maxHeartbeats 4000000 in
set_option maxRecDepth 100000 in
theorem wX6_findFault_95 {r : Int32} {M1 : Mem} (X : CX E p s m args c meth cX6_findFault 2 (some .int) RX6) : ∀ {s0 : Int32} {M : Mem} {H : Heap} {locs : List Loc} {ls : Array Slot}, fX6_findFault_95 s0 M = some (r, M1) → Rl E (sh_ b) (nn b) s.heap M H locs → lv_has ls 2 [] → W p l e (rm 10 0 0) s m args below meth c H locs 0 0 (MQ below (qq E (some (.int r)) (sh_ b) (nn b) M1) args s 0 0 (fr E)) (F0 m 95 ls [.int s0]) := by
  obtain ⟨hx, hb, hr, hml, hown, hts, hK, hN, hO, hlk, hbs⟩ := id X
  intro s0 M H locs ls hf hR hl
  unfold fX6_findFault_95 at hf
  cases hf
  exact x_iret hx hb hr hlk hR dX6_findFault_95
set_option maxHeartbeats 4000000 in
set_option maxRecDepth 100000 in
theorem wX6_findFault_91 {r : Int32} {M1 : Mem} (X : CX E p s m args c meth cX6_findFault 2 (some .int) RX6) : ∀ {M : Mem} {H : Heap} {locs : List Loc} {ls : Array Slot}, fX6_findFault_91 M = some (r, M1) → Rl E (sh_ b) (nn b) s.heap M H locs → lv_has ls 2 [(0, .ref (eB E + 10))] → W p l e (rm 10 0 0) s m args below meth c H locs 0 0 (MQ below (qq E (some (.int r)) (sh_ b) (nn b) M1) args s 0 0 (fr E)) (F0 m 91 ls []) := by
  obtain ⟨hx, hb, hr, hml, hown, hts, hK, hN, hO, hlk, hbs⟩ := id X
  intro M H locs ls hf hR hl
  unfold fX6_findFault_91 at hf
  refine lv_aload_n hx hb dX6_findFault_91 rfl (lv_at hl 0 rfl) ?_
  refine x_get hx hb hown hts hK hR kX6 (z_10 b) (j := 4) (by decide) fl_X6_55 (v := .int (M.1 10 4)) rfl dX6_findFault_92 ?_
  exact wX6_findFault_95 X hf hR (lv_sub hl [] rfl)
set_option maxHeartbeats 4000000 in
set_option maxRecDepth 100000 in
theorem wX6_findFault_70 {r : Int32} {M1 : Mem} (X : CX E p s m args c meth cX6_findFault 2 (some .int) RX6) : ∀ {M : Mem} {H : Heap} {locs : List Loc} {ls : Array Slot}, fX6_findFault_70 M = some (r, M1) → Rl E (sh_ b) (nn b) s.heap M H locs → lv_has ls 2 [(0, .ref (eB E + 10))] → W p l e (rm 10 0 0) s m args below meth c H locs 0 0 (MQ below (qq E (some (.int r)) (sh_ b) (nn b) M1) args s 0 0 (fr E)) (F0 m 70 ls []) := by
  obtain ⟨hx, hb, hr, hml, hown, hts, hK, hN, hO, hlk, hbs⟩ := id X
  intro M H locs ls hf hR hl
  unfold fX6_findFault_70 at hf
  refine lv_aload_n hx hb dX6_findFault_70 rfl (lv_at hl 0 rfl) ?_
  refine x_get hx hb hown hts hK hR kX6 (z_10 b) (j := 3) (by decide) fl_X6_48 (v := .int (M.1 10 3)) rfl dX6_findFault_71 ?_
  refine lv_if_ne (tgt := 91) hx hb dX6_findFault_74 (by decide) (fun q74 => ?_) (fun q74 => ?_)
  · have hf := (br_if hf).2 q74
    exact wX6_findFault_91 X hf hR hl
  · have hf := (br_if hf).1 q74
    refine lv_aload_n hx hb dX6_findFault_77 rfl (lv_at hl 0 rfl) ?_
    refine x_get hx hb hown hts hK hR kX6 (z_10 b) (j := 2) (by decide) fl_X6_18 (v := .ref (eB E + 12)) rfl dX6_findFault_78 ?_
    refine x_get hx hb hown hts hK hR kX8 (z_12 b) (j := 0) (by decide) fl_X6_58 (v := .int (M.1 12 0)) rfl dX6_findFault_81 ?_
    refine lv_if_le (tgt := 91) hx hb dX6_findFault_84 (by decide) (fun q84 => ?_) (fun q84 => ?_)
    · have hf := (br_if hf).1 q84
      exact wX6_findFault_91 X hf hR hl
    · have hf := (br_if hf).2 q84
      refine lv_iconst (v := -1) hx hb dX6_findFault_87 (by decide) ?_
      refine lv_goto (tgt := 95) hx hb dX6_findFault_88 (by decide) ?_
      exact wX6_findFault_95 X hf hR (lv_sub hl [] rfl)
set_option maxHeartbeats 4000000 in
set_option maxRecDepth 100000 in
theorem wX6_findFault_0 {r : Int32} {M1 : Mem} (X : CX E p s m args c meth cX6_findFault 2 (some .int) RX6) : ∀ {M : Mem} {H : Heap} {locs : List Loc} {ls : Array Slot}, fX6_findFault M = some (r, M1) → Rl E (sh_ b) (nn b) s.heap M H locs → lv_has ls 2 [(0, .ref (eB E + 10))] → W p l e (rm 10 0 0) s m args below meth c H locs 0 0 (MQ below (qq E (some (.int r)) (sh_ b) (nn b) M1) args s 0 0 (fr E)) (F0 m 0 ls []) := by
  obtain ⟨hx, hb, hr, hml, hown, hts, hK, hN, hO, hlk, hbs⟩ := id X
  intro M H locs ls hf hR hl
  unfold fX6_findFault at hf
  refine lv_aload_n hx hb dX6_findFault_0 rfl (lv_at hl 0 rfl) ?_
  refine x_get hx hb hown hts hK hR kX6 (z_10 b) (j := 2) (by decide) fl_X6_18 (v := .ref (eB E + 12)) rfl dX6_findFault_1 ?_
  obtain ⟨q4, c4, hf⟩ := br_b hf
  refine x_callV (k := 12) (As := []) (rest := []) (st1 := []) X hR (ctX8_clear_d c4) ml_X6_26 im_X8_clear se_X8_clear in_X8 co_X8_clear yo_X8_clear rfl kX8 (z_12 b) (rm_ok (by decide) (by decide)) rfl hl.1 rfl rfl (Nat.le_of_ble_eq_true rfl) dX6_findFault_4 ⟨Nat.zero_le _, Nat.zero_le _⟩ (fun H locs hR => ?_)
  refine lv_aload_n hx hb dX6_findFault_7 rfl (lv_at hl 0 rfl) ?_
  refine lv_iconst (v := 0) hx hb dX6_findFault_8 (by decide) ?_
  refine x_puti hx hb hown hts hK hR kX6 (z_10 b) (j := 7) (by decide) fl_X6_29 rfl rfl rfl rfl dX6_findFault_9 (fun H locs hR => ?_)
  obtain ⟨M9, e9⟩ : ∃ y : Mem, y = (sI q4 10 7 (0 : Int32)) := ⟨_, rfl⟩
  have hf := nx_at e9 hf
  have hR : Rl E (sh_ b) (nn b) s.heap M9 H locs := by rw [e9]; exact hR
  refine lv_aload_n hx hb dX6_findFault_12 rfl (lv_at hl 0 rfl) ?_
  refine lv_iconst (v := 1) hx hb dX6_findFault_13 (by decide) ?_
  refine x_puti hx hb hown hts hK hR kX6 (z_10 b) (j := 8) (by decide) fl_X6_32 rfl rfl rfl rfl dX6_findFault_14 (fun H locs hR => ?_)
  obtain ⟨M14, e14⟩ : ∃ y : Mem, y = (sI M9 10 8 (1 : Int32)) := ⟨_, rfl⟩
  have hf := nx_at e14 hf
  have hR : Rl E (sh_ b) (nn b) s.heap M14 H locs := by rw [e14]; exact hR
  refine lv_aload_n hx hb dX6_findFault_17 rfl (lv_at hl 0 rfl) ?_
  refine lv_iconst (v := 1) hx hb dX6_findFault_18 (by decide) ?_
  refine x_puti hx hb hown hts hK hR kX6 (z_10 b) (j := 9) (by decide) fl_X6_35 rfl rfl rfl rfl dX6_findFault_19 (fun H locs hR => ?_)
  obtain ⟨M19, e19⟩ : ∃ y : Mem, y = (sI M14 10 9 (1 : Int32)) := ⟨_, rfl⟩
  have hf := nx_at e19 hf
  have hR : Rl E (sh_ b) (nn b) s.heap M19 H locs := by rw [e19]; exact hR
  refine lv_aload_n hx hb dX6_findFault_22 rfl (lv_at hl 0 rfl) ?_
  refine lv_iconst (v := 0) hx hb dX6_findFault_23 (by decide) ?_
  refine x_puti hx hb hown hts hK hR kX6 (z_10 b) (j := 10) (by decide) fl_X6_38 rfl rfl rfl rfl dX6_findFault_24 (fun H locs hR => ?_)
  obtain ⟨M24, e24⟩ : ∃ y : Mem, y = (sI M19 10 10 (0 : Int32)) := ⟨_, rfl⟩
  have hf := nx_at e24 hf
  have hR : Rl E (sh_ b) (nn b) s.heap M24 H locs := by rw [e24]; exact hR
  refine lv_aload_n hx hb dX6_findFault_27 rfl (lv_at hl 0 rfl) ?_
  refine lv_iconst (v := 0) hx hb dX6_findFault_28 (by decide) ?_
  refine x_puti hx hb hown hts hK hR kX6 (z_10 b) (j := 5) (by decide) fl_X6_42 rfl rfl rfl rfl dX6_findFault_29 (fun H locs hR => ?_)
  obtain ⟨M29, e29⟩ : ∃ y : Mem, y = (sI M24 10 5 (0 : Int32)) := ⟨_, rfl⟩
  have hf := nx_at e29 hf
  have hR : Rl E (sh_ b) (nn b) s.heap M29 H locs := by rw [e29]; exact hR
  refine lv_aload_n hx hb dX6_findFault_32 rfl (lv_at hl 0 rfl) ?_
  obtain ⟨q33, c33, hf⟩ := br_b hf
  refine x_callV (k := 10) (As := []) (rest := []) (st1 := []) X hR (ctX6_next c33) ml_X6_45 im_X6_next se_X6_next in_X6 co_X6_next yo_X6_next rfl kX6 (z_10 b) (rm_ok (by decide) (by decide)) rfl hl.1 rfl rfl (Nat.le_of_ble_eq_true rfl) dX6_findFault_33 ⟨Nat.zero_le _, Nat.zero_le _⟩ (fun H locs hR => ?_)
  refine lv_iconst (v := 0) hx hb dX6_findFault_36 (by decide) ?_
  refine lv_istore_n (lv' := [(1, .int (0 : Int32)), (0, .ref (eB E + 10))]) hx hb dX6_findFault_37 rfl hl (by decide) rfl (fun ls hl => ?_)
  exact wX6_findFault_38 X (fun hf hR hl => wX6_findFault_59 X hf hR hl) (fun hf hR hl => wX6_findFault_70 X hf hR hl) FU hf hR (lv_sub hl [1, 0] rfl)
theorem ctX6_findFault {l : Launch} {E : Ge} {b : Bool} {M : Mem} {r : Int32} {M1 : Mem} (h : fX6_findFault M = some (r, M1)) : CT l E yX6_findFault cX6_findFault 2 (some .int) 10 0 0 [.ref (eB E + 10)] (some (.int r)) (sh_ b) (nn b) M (sh_ b) (nn b) M1 := by
  refine met_of (by decide) (Nat.le_of_ble_eq_true rfl) ?_
  intro p e s m args below meth c X _ hR ls hl
  exact wX6_findFault_0 X h hR hl
end WK
