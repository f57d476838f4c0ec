section WK
variable {p : Program} {l : Launch} {e : Env} {s : State} {m : MethodId} {args : Array Value} {below : List Frame} {meth : Method} {c : Code} {E : Ge} {b : Bool}
def fX3_gainOf (M : Mem) (x1 : Int32) (x2 : Int32) : Option Int32 := (if inb ((x1 * (8 : Int32)) + x2) 64 = true then some (M.1 37 (ix ((x1 * (8 : Int32)) + x2))) else none)
set_option maxHeartbeats 4000000 in
set_option maxRecDepth 100000 in
theorem wX3_gainOf_0 {r : Int32} {M : Mem} (X : CX E p s m args c meth cX3_gainOf 3 (some .int) RX3) : ∀ {x1 : Int32} {x2 : Int32} {H : Heap} {locs : List Loc} {ls : Array Slot}, fX3_gainOf M x1 x2 = some r → Rl E (sh_ b) (nn b) s.heap M H locs → lv_has ls 3 [(0, .ref (eB E + 36)), (1, .int x1), (2, .int x2)] → W p l e (rm 1 0 0) s m args below meth c H locs 0 0 (MQ below (qq E (some (.int r)) (sh_ b) (nn b) M) args s 0 0 (fr E)) (F0 m 0 ls []) := by
  obtain ⟨hx, hb, hr, hml, hown, hts, hK, hN, hO, hlk, hbs⟩ := id X
  intro x1 x2 H locs ls hf hR hl
  unfold fX3_gainOf at hf
  refine lv_aload_n hx hb dX3_gainOf_0 rfl (lv_at hl 0 rfl) ?_
  refine x_get hx hb hown hts hK hR kX3 (z_36 b) (j := 1) (by decide) fl_X3_9 (v := .ref (eB E + 37)) rfl dX3_gainOf_1 ?_
  refine lv_iload_n hx hb dX3_gainOf_4 rfl (lv_at hl 1 rfl) ?_
  refine lv_bipush (v := 8) hx hb dX3_gainOf_5 (by decide) ?_
  refine lv_imul hx hb dX3_gainOf_7 ?_
  refine lv_iload_n hx hb dX3_gainOf_8 rfl (lv_at hl 2 rfl) ?_
  refine lv_iadd hx hb dX3_gainOf_9 ?_
  obtain ⟨g10, hf⟩ := br_g hf
  refine x_iald hx hb hK hR (z_37 b) g10 dX3_gainOf_10 ?_
  cases hf
  exact x_iret hx hb hr hlk hR dX3_gainOf_11
theorem ctX3_gainOf {l : Launch} {E : Ge} {b : Bool} {M : Mem} {x1 : Int32} {x2 : Int32} {r : Int32} (h : fX3_gainOf M x1 x2 = some r) : CT l E yX3_gainOf cX3_gainOf 3 (some .int) 1 0 0 [.ref (eB E + 36), .int x1, .int x2] (some (.int r)) (sh_ b) (nn b) M (sh_ b) (nn b) M := by
  refine met_of (by decide) (Nat.le_of_ble_eq_true rfl) ?_
  intro p e s m args below meth c X _ hR ls hl
  exact wX3_gainOf_0 X h hR hl
def fX3_expand_74 (M : Mem) (k22 : Int32 → Int32 → Int64 → Int32 → Int32 → Option Int64) (k80 : Int64 → Option Int64) (x2 : Int32) (x3 : Int32) (y4 : Int64) (x6 : Int32) (x7 : Int32) : Option Int64 := nx (x7 + (1 : Int32)) (fun v74 => k22 x2 x3 y4 x6 v74)
def fX3_expand_22 (M : Mem) (k80 : Int64 → Option Int64) : Nat → Int32 → Int32 → Int64 → Int32 → Int32 → Option Int64
  | 0, _, _, _, _, _ => none
  | n + 1, x2, x3, y4, x6, x7 => (if (M.1 36 5) ≤ x7 then k80 y4 else (if ((x3 >>> (x7 &&& 31)) &&& (1 : Int32)) = (1 : Int32) then (fX3_gainOf M x2 x7).bind (fun q49 => (if inb (x3 ^^^ ((1 : Int32) <<< (x7 &&& 31))) 256 = true then nx (y4 + ((x6 * q49).toInt64 * (M.2 38 (ix (x3 ^^^ ((1 : Int32) <<< (x7 &&& 31))))))) (fun v67 => nx (-x6) (fun v72 => fX3_expand_74 M (fX3_expand_22 M k80 n) k80 x2 x3 v67 v72 x7)) else none)) else fX3_expand_74 M (fX3_expand_22 M k80 n) k80 x2 x3 y4 x6 x7))
def fX3_expand_80 (M : Mem) (y4 : Int64) : Option Int64 := some y4
def fX3_expand (M : Mem) (x1 : Int32) : Option Int64 := (fJ6_numberOfTrailingZeros_0f7a4 M x1).bind (fun q1 => nx (x1 &&& (x1 - (1 : Int32))) (fun v10 => nx (q1 + (1 : Int32)) (fun v20 => fX3_expand_22 M (fX3_expand_80 M) FU q1 v10 (0 : Int64) (1 : Int32) v20)))
set_option maxHeartbeats 4000000 in
set_option maxRecDepth 100000 in
theorem wX3_expand_74 {r : Int64} {M : Mem} {k22 : Int32 → Int32 → Int64 → Int32 → Int32 → Option Int64} {k80 : Int64 → Option Int64} (X : CX E p s m args c meth cX3_expand 8 (some .long) RX3) (hk22 : ∀ {x2 : Int32} {x3 : Int32} {y4 : Int64} {x6 : Int32} {x7 : Int32} {H : Heap} {locs : List Loc} {ls : Array Slot}, k22 x2 x3 y4 x6 x7 = some r → Rl E (sh_ b) (nn b) s.heap M H locs → lv_has ls 8 [(0, .ref (eB E + 36)), (2, .int x2), (3, .int x3), (4, .long y4), (6, .int x6), (7, .int x7)] → W p l e (rm 2 0 0) s m args below meth c H locs 0 0 (MQ below (qq E (some (.long r)) (sh_ b) (nn b) M) args s 0 0 (fr E)) (F0 m 22 ls [])) (hk80 : ∀ {y4 : Int64} {H : Heap} {locs : List Loc} {ls : Array Slot}, k80 y4 = some r → Rl E (sh_ b) (nn b) s.heap M H locs → lv_has ls 8 [(4, .long y4)] → W p l e (rm 2 0 0) s m args below meth c H locs 0 0 (MQ below (qq E (some (.long r)) (sh_ b) (nn b) M) args s 0 0 (fr E)) (F0 m 80 ls [])) : ∀ {x2 : Int32} {x3 : Int32} {y4 : Int64} {x6 : Int32} {x7 : Int32} {H : Heap} {locs : List Loc} {ls : Array Slot}, fX3_expand_74 M k22 k80 x2 x3 y4 x6 x7 = some r → Rl E (sh_ b) (nn b) s.heap M H locs → lv_has ls 8 [(0, .ref (eB E + 36)), (2, .int x2), (3, .int x3), (4, .long y4), (6, .int x6), (7, .int x7)] → W p l e (rm 2 0 0) s m args below meth c H locs 0 0 (MQ below (qq E (some (.long r)) (sh_ b) (nn b) M) args s 0 0 (fr E)) (F0 m 74 ls []) := by
  obtain ⟨hx, hb, hr, hml, hown, hts, hK, hN, hO, hlk, hbs⟩ := id X
  intro x2 x3 y4 x6 x7 H locs ls hf hR hl
  unfold fX3_expand_74 at hf
  obtain ⟨v74, e74⟩ : ∃ y : Int32, y = (x7 + (1 : Int32)) := ⟨_, rfl⟩
  have hf := nx_at e74 hf
  refine lv_iinc (v := v74) (lv' := [(7, .int v74), (0, .ref (eB E + 36)), (2, .int x2), (3, .int x3), (4, .long y4), (6, .int x6)]) hx hb dX3_expand_74 hl (k := 5) rfl (by rw [e74]; rfl) (by decide) rfl (fun ls hl => ?_)
  refine lv_goto (tgt := 22) hx hb dX3_expand_77 (by decide) ?_
  exact hk22 hf hR (lv_sub hl [1, 2, 3, 4, 5, 0] rfl)
set_option maxHeartbeats 4000000 in
set_option maxRecDepth 100000 in
theorem wX3_expand_22 {r : Int64} {M : Mem} {k80 : Int64 → Option Int64} (X : CX E p s m args c meth cX3_expand 8 (some .long) RX3) (hk80 : ∀ {y4 : Int64} {H : Heap} {locs : List Loc} {ls : Array Slot}, k80 y4 = some r → Rl E (sh_ b) (nn b) s.heap M H locs → lv_has ls 8 [(4, .long y4)] → W p l e (rm 2 0 0) s m args below meth c H locs 0 0 (MQ below (qq E (some (.long r)) (sh_ b) (nn b) M) args s 0 0 (fr E)) (F0 m 80 ls [])) : ∀ (n : Nat) {x2 : Int32} {x3 : Int32} {y4 : Int64} {x6 : Int32} {x7 : Int32} {H : Heap} {locs : List Loc} {ls : Array Slot}, fX3_expand_22 M k80 n x2 x3 y4 x6 x7 = some r → Rl E (sh_ b) (nn b) s.heap M H locs → lv_has ls 8 [(0, .ref (eB E + 36)), (2, .int x2), (3, .int x3), (4, .long y4), (6, .int x6), (7, .int x7)] → W p l e (rm 2 0 0) s m args below meth c H locs 0 0 (MQ below (qq E (some (.long r)) (sh_ b) (nn b) M) args s 0 0 (fr E)) (F0 m 22 ls []) := by
  obtain ⟨hx, hb, hr, hml, hown, hts, hK, hN, hO, hlk, hbs⟩ := id X
  intro n
  induction n with
  | zero =>
    intro x2 x3 y4 x6 x7 H locs ls hf hR hl
    exact absurd (show none = some _ from hf) (fun h => by cases h)
  | succ n ih =>
    intro x2 x3 y4 x6 x7 H locs ls hf hR hl
    rw [fX3_expand_22] at hf
    refine lv_iload hx hb dX3_expand_22 (lv_at hl 5 rfl) ?_
    refine lv_aload_n hx hb dX3_expand_24 rfl (lv_at hl 0 rfl) ?_
    refine x_get hx hb hown hts hK hR kX3 (z_36 b) (j := 5) (by decide) fl_X3_55 (v := .int (M.1 36 5)) rfl dX3_expand_25 ?_
    refine lv_icmp_ge (tgt := 80) hx hb dX3_expand_28 (by decide) (fun q28 => ?_) (fun q28 => ?_)
    · have hf := (br_if hf).1 q28
      exact hk80 hf hR (lv_sub hl [3] rfl)
    · have hf := (br_if hf).2 q28
      refine lv_iload_n hx hb dX3_expand_31 rfl (lv_at hl 2 rfl) ?_
      refine lv_iload hx hb dX3_expand_32 (lv_at hl 5 rfl) ?_
      refine lv_ishr hx hb dX3_expand_34 ?_
      refine lv_iconst (v := 1) hx hb dX3_expand_35 (by decide) ?_
      refine lv_iand hx hb dX3_expand_36 ?_
      refine lv_iconst (v := 1) hx hb dX3_expand_37 (by decide) ?_
      refine lv_icmp_ne (tgt := 74) hx hb dX3_expand_38 (by decide) (fun q38 => ?_) (fun q38 => ?_)
      · have hf := (br_if hf).2 q38
        exact wX3_expand_74 X (fun hf hR hl => ih hf hR hl) (fun hf hR hl => hk80 hf hR hl) hf hR hl
      · have hf := (br_if hf).1 q38
        refine lv_lload hx hb dX3_expand_41 (lv_at hl 3 rfl) ?_
        refine lv_iload hx hb dX3_expand_43 (lv_at hl 4 rfl) ?_
        refine lv_aload_n hx hb dX3_expand_45 rfl (lv_at hl 0 rfl) ?_
        refine lv_iload_n hx hb dX3_expand_46 rfl (lv_at hl 1 rfl) ?_
        refine lv_iload hx hb dX3_expand_47 (lv_at hl 5 rfl) ?_
        obtain ⟨q49, c49, hf⟩ := br_b hf
        refine x_callV (k := 36) (As := [.int x2, .int x7]) (rest := [.int x6, .long y4]) (st1 := [.int q49, .int x6, .long y4]) X hR (ctX3_gainOf c49) ml_X3_68 im_X3_gainOf se_X3_gainOf in_X3 co_X3_gainOf yo_X3_gainOf rfl kX3 (z_36 b) (rm_ok (by decide) (by decide)) rfl hl.1 rfl rfl (Nat.le_of_ble_eq_true rfl) dX3_expand_49 ⟨Nat.zero_le _, Nat.zero_le _⟩ (fun H locs hR => ?_)
        refine lv_imul hx hb dX3_expand_52 ?_
        refine lv_i2l (v := (x6 * q49).toInt64) hx hb dX3_expand_53 rfl ?_
        refine lv_aload_n hx hb dX3_expand_54 rfl (lv_at hl 0 rfl) ?_
        refine x_get hx hb hown hts hK hR kX3 (z_36 b) (j := 2) (by decide) fl_X3_15 (v := .ref (eB E + 38)) rfl dX3_expand_55 ?_
        refine lv_iload_n hx hb dX3_expand_58 rfl (lv_at hl 2 rfl) ?_
        refine lv_iconst (v := 1) hx hb dX3_expand_59 (by decide) ?_
        refine lv_iload hx hb dX3_expand_60 (lv_at hl 5 rfl) ?_
        refine lv_ishl hx hb dX3_expand_62 ?_
        refine lv_ixor hx hb dX3_expand_63 ?_
        obtain ⟨g64, hf⟩ := br_g hf
        refine x_lald hx hb hK hR (z_38 b) g64 dX3_expand_64 ?_
        refine lv_lmul hx hb dX3_expand_65 ?_
        refine lv_ladd hx hb dX3_expand_66 ?_
        refine lv_topl (fun v67 e67 => ?_)
        have hf := nx_at e67 hf
        refine lv_lstore (lv' := [(4, .long v67), (0, .ref (eB E + 36)), (2, .int x2), (3, .int x3), (6, .int x6), (7, .int x7)]) hx hb dX3_expand_67 hl (by decide) rfl (fun ls hl => ?_)
        refine lv_iload hx hb dX3_expand_69 (lv_at hl 4 rfl) ?_
        refine lv_ineg hx hb dX3_expand_71 ?_
        refine lv_topi (fun v72 e72 => ?_)
        have hf := nx_at e72 hf
        refine lv_istore (lv' := [(6, .int v72), (4, .long v67), (0, .ref (eB E + 36)), (2, .int x2), (3, .int x3), (7, .int x7)]) hx hb dX3_expand_72 hl (by decide) rfl (fun ls hl => ?_)
        exact wX3_expand_74 X (fun hf hR hl => ih hf hR hl) (fun hf hR hl => hk80 hf hR hl) hf hR (lv_sub hl [2, 3, 4, 1, 0, 5] rfl)
set_option maxHeartbeats 4000000 in
set_option maxRecDepth 100000 in
theorem wX3_expand_80 {r : Int64} {M : Mem} (X : CX E p s m args c meth cX3_expand 8 (some .long) RX3) : ∀ {y4 : Int64} {H : Heap} {locs : List Loc} {ls : Array Slot}, fX3_expand_80 M y4 = some r → Rl E (sh_ b) (nn b) s.heap M H locs → lv_has ls 8 [(4, .long y4)] → W p l e (rm 2 0 0) s m args below meth c H locs 0 0 (MQ below (qq E (some (.long r)) (sh_ b) (nn b) M) args s 0 0 (fr E)) (F0 m 80 ls []) := by
  obtain ⟨hx, hb, hr, hml, hown, hts, hK, hN, hO, hlk, hbs⟩ := id X
  intro y4 H locs ls hf hR hl
  unfold fX3_expand_80 at hf
  refine lv_lload hx hb dX3_expand_80 (lv_at hl 0 rfl) ?_
  cases hf
  exact x_lret hx hb hr hlk hR dX3_expand_82
set_option maxHeartbeats 4000000 in
set_option maxRecDepth 100000 in
theorem wX3_expand_0 {r : Int64} {M : Mem} (X : CX E p s m args c meth cX3_expand 8 (some .long) RX3) : ∀ {x1 : Int32} {H : Heap} {locs : List Loc} {ls : Array Slot}, fX3_expand M x1 = some r → Rl E (sh_ b) (nn b) s.heap M H locs → lv_has ls 8 [(0, .ref (eB E + 36)), (1, .int x1)] → W p l e (rm 2 0 0) s m args below meth c H locs 0 0 (MQ below (qq E (some (.long r)) (sh_ b) (nn b) M) args s 0 0 (fr E)) (F0 m 0 ls []) := by
  obtain ⟨hx, hb, hr, hml, hown, hts, hK, hN, hO, hlk, hbs⟩ := id X
  intro x1 H locs ls hf hR hl
  unfold fX3_expand at hf
  refine lv_iload_n hx hb dX3_expand_0 rfl (lv_at hl 1 rfl) ?_
  obtain ⟨q1, c1, hf⟩ := br_b hf
  refine x_callS (As := [.int x1]) (rest := []) (st1 := [.int q1]) X hR (ctJ6_numberOfTrailingZeros_0f7a4 c1) ml_X3_81 st_J6_numberOfTrailingZeros_0f7a4 in_J6 co_J6_numberOfTrailingZeros_0f7a4 yo_J6_numberOfTrailingZeros_0f7a4 (rm_ok (by decide) (by decide)) rfl hl.1 rfl rfl (Nat.le_of_ble_eq_true rfl) dX3_expand_1 ⟨Nat.zero_le _, Nat.zero_le _⟩ (fun H locs hR => ?_)
  refine lv_istore_n (lv' := [(2, .int q1), (0, .ref (eB E + 36)), (1, .int x1)]) hx hb dX3_expand_4 rfl hl (by decide) rfl (fun ls hl => ?_)
  refine lv_iload_n hx hb dX3_expand_5 rfl (lv_at hl 2 rfl) ?_
  refine lv_iload_n hx hb dX3_expand_6 rfl (lv_at hl 2 rfl) ?_
  refine lv_iconst (v := 1) hx hb dX3_expand_7 (by decide) ?_
  refine lv_isub hx hb dX3_expand_8 ?_
  refine lv_iand hx hb dX3_expand_9 ?_
  refine lv_topi (fun v10 e10 => ?_)
  have hf := nx_at e10 hf
  refine lv_istore_n (lv' := [(3, .int v10), (2, .int q1), (0, .ref (eB E + 36)), (1, .int x1)]) hx hb dX3_expand_10 rfl hl (by decide) rfl (fun ls hl => ?_)
  refine lv_lconst (v := 0) hx hb dX3_expand_11 (by decide) ?_
  refine lv_lstore (lv' := [(4, .long (0 : Int64)), (3, .int v10), (2, .int q1), (0, .ref (eB E + 36)), (1, .int x1)]) hx hb dX3_expand_12 hl (by decide) rfl (fun ls hl => ?_)
  refine lv_iconst (v := 1) hx hb dX3_expand_14 (by decide) ?_
  refine lv_istore (lv' := [(6, .int (1 : Int32)), (4, .long (0 : Int64)), (3, .int v10), (2, .int q1), (0, .ref (eB E + 36)), (1, .int x1)]) hx hb dX3_expand_15 hl (by decide) rfl (fun ls hl => ?_)
  refine lv_iload_n hx hb dX3_expand_17 rfl (lv_at hl 3 rfl) ?_
  refine lv_iconst (v := 1) hx hb dX3_expand_18 (by decide) ?_
  refine lv_iadd hx hb dX3_expand_19 ?_
  refine lv_topi (fun v20 e20 => ?_)
  have hf := nx_at e20 hf
  refine lv_istore (lv' := [(7, .int v20), (6, .int (1 : Int32)), (4, .long (0 : Int64)), (3, .int v10), (2, .int q1), (0, .ref (eB E + 36)), (1, .int x1)]) hx hb dX3_expand_20 hl (by decide) rfl (fun ls hl => ?_)
  exact wX3_expand_22 X (fun hf hR hl => wX3_expand_80 X hf hR hl) FU hf hR (lv_sub hl [5, 4, 3, 2, 1, 0] rfl)
theorem ctX3_expand {l : Launch} {E : Ge} {b : Bool} {M : Mem} {x1 : Int32} {r : Int64} (h : fX3_expand M x1 = some r) : CT l E yX3_expand cX3_expand 8 (some .long) 2 0 0 [.ref (eB E + 36), .int x1] (some (.long r)) (sh_ b) (nn b) M (sh_ b) (nn b) M := by
  refine met_of (by decide) (Nat.le_of_ble_eq_true rfl) ?_
  intro p e s m args below meth c X _ hR ls hl
  exact wX3_expand_0 X h hR hl
def fX3_fillPfaffians_42 (k9 : Int32 → Mem → Option Mem) (k49 : Mem → Option Mem) (x1 : Int32) (s1 : Int32) (t2 : Int64) (M : Mem) : Option Mem := (if inb s1 256 = true then nx (sL M 38 (ix s1) t2) (fun M42 => nx (x1 + (1 : Int32)) (fun v43 => k9 v43 M42)) else none)
def fX3_fillPfaffians_9 (k49 : Mem → Option Mem) : Nat → Int32 → Mem → Option Mem
  | 0, _, _ => none
  | n + 1, x1, M => (if ((1 : Int32) <<< ((M.1 36 5) &&& 31)) ≤ x1 then k49 M else (fJ6_bitCount_0f7a4 M x1).bind (fun q25 => (if (irm q25 (2 : Int32)) = 0 then (fX3_expand M x1).bind (fun q35 => fX3_fillPfaffians_42 (fX3_fillPfaffians_9 k49 n) k49 x1 x1 q35 M) else fX3_fillPfaffians_42 (fX3_fillPfaffians_9 k49 n) k49 x1 x1 (0 : Int64) M)))
def fX3_fillPfaffians_49 (M : Mem) : Option Mem := some M
def fX3_fillPfaffians (M : Mem) : Option Mem := nx (sL M 38 (ix (0 : Int32)) (1 : Int64)) (fun M6 => fX3_fillPfaffians_9 fX3_fillPfaffians_49 FU (1 : Int32) M6)
set_option maxHeartbeats 4000000 in
set_option maxRecDepth 100000 in
theorem wX3_fillPfaffians_42 {M1 : Mem} {k9 : Int32 → Mem → Option Mem} {k49 : Mem → Option Mem} (X : CX E p s m args c meth cX3_fillPfaffians 2 none RX3) (hk9 : ∀ {x1 : Int32} {M : Mem} {H : Heap} {locs : List Loc} {ls : Array Slot}, k9 x1 M = some M1 → Rl E (sh_ b) (nn b) s.heap M H locs → lv_has ls 2 [(0, .ref (eB E + 36)), (1, .int x1)] → W p l e (rm 3 0 0) s m args below meth c H locs 0 0 (MQ below (qq E none (sh_ b) (nn b) M1) args s 0 0 (fr E)) (F0 m 9 ls [])) (hk49 : ∀ {M : Mem} {H : Heap} {locs : List Loc} {ls : Array Slot}, k49 M = some M1 → Rl E (sh_ b) (nn b) s.heap M H locs → lv_has ls 2 [] → W p l e (rm 3 0 0) s m args below meth c H locs 0 0 (MQ below (qq E none (sh_ b) (nn b) M1) args s 0 0 (fr E)) (F0 m 49 ls [])) : ∀ {x1 : Int32} {s1 : Int32} {t2 : Int64} {M : Mem} {H : Heap} {locs : List Loc} {ls : Array Slot}, fX3_fillPfaffians_42 k9 k49 x1 s1 t2 M = some M1 → Rl E (sh_ b) (nn b) s.heap M H locs → lv_has ls 2 [(0, .ref (eB E + 36)), (1, .int x1)] → W p l e (rm 3 0 0) s m args below meth c H locs 0 0 (MQ below (qq E none (sh_ b) (nn b) M1) args s 0 0 (fr E)) (F0 m 42 ls [.long t2, .int s1, .ref (eB E + 38)]) := by
  obtain ⟨hx, hb, hr, hml, hown, hts, hK, hN, hO, hlk, hbs⟩ := id X
  intro x1 s1 t2 M H locs ls hf hR hl
  unfold fX3_fillPfaffians_42 at hf
  obtain ⟨g42, hf⟩ := br_g hf
  refine x_last hx hb hK hR (z_38 b) g42 dX3_fillPfaffians_42 (fun H locs hR => ?_)
  obtain ⟨M42, e42⟩ : ∃ y : Mem, y = (sL M 38 (ix s1) t2) := ⟨_, rfl⟩
  have hf := nx_at e42 hf
  have hR : Rl E (sh_ b) (nn b) s.heap M42 H locs := by rw [e42]; exact hR
  obtain ⟨v43, e43⟩ : ∃ y : Int32, y = (x1 + (1 : Int32)) := ⟨_, rfl⟩
  have hf := nx_at e43 hf
  refine lv_iinc (v := v43) (lv' := [(1, .int v43), (0, .ref (eB E + 36))]) hx hb dX3_fillPfaffians_43 hl (k := 1) rfl (by rw [e43]; rfl) (by decide) rfl (fun ls hl => ?_)
  refine lv_goto (tgt := 9) hx hb dX3_fillPfaffians_46 (by decide) ?_
  exact hk9 hf hR (lv_sub hl [1, 0] rfl)
set_option maxHeartbeats 4000000 in
set_option maxRecDepth 100000 in
theorem wX3_fillPfaffians_9 {M1 : Mem} {k49 : Mem → Option Mem} (X : CX E p s m args c meth cX3_fillPfaffians 2 none RX3) (hk49 : ∀ {M : Mem} {H : Heap} {locs : List Loc} {ls : Array Slot}, k49 M = some M1 → Rl E (sh_ b) (nn b) s.heap M H locs → lv_has ls 2 [] → W p l e (rm 3 0 0) s m args below meth c H locs 0 0 (MQ below (qq E none (sh_ b) (nn b) M1) args s 0 0 (fr E)) (F0 m 49 ls [])) : ∀ (n : Nat) {x1 : Int32} {M : Mem} {H : Heap} {locs : List Loc} {ls : Array Slot}, fX3_fillPfaffians_9 k49 n x1 M = some M1 → Rl E (sh_ b) (nn b) s.heap M H locs → lv_has ls 2 [(0, .ref (eB E + 36)), (1, .int x1)] → W p l e (rm 3 0 0) s m args below meth c H locs 0 0 (MQ below (qq E none (sh_ b) (nn b) M1) args s 0 0 (fr E)) (F0 m 9 ls []) := by
  obtain ⟨hx, hb, hr, hml, hown, hts, hK, hN, hO, hlk, hbs⟩ := id X
  intro n
  induction n with
  | zero =>
    intro x1 M H locs ls hf hR hl
    exact absurd (show none = some _ from hf) (fun h => by cases h)
  | succ n ih =>
    intro x1 M H locs ls hf hR hl
    rw [fX3_fillPfaffians_9] at hf
    refine lv_iload_n hx hb dX3_fillPfaffians_9 rfl (lv_at hl 1 rfl) ?_
    refine lv_iconst (v := 1) hx hb dX3_fillPfaffians_10 (by decide) ?_
    refine lv_aload_n hx hb dX3_fillPfaffians_11 rfl (lv_at hl 0 rfl) ?_
    refine x_get hx hb hown hts hK hR kX3 (z_36 b) (j := 5) (by decide) fl_X3_55 (v := .int (M.1 36 5)) rfl dX3_fillPfaffians_12 ?_
    refine lv_ishl hx hb dX3_fillPfaffians_15 ?_
    refine lv_icmp_ge (tgt := 49) hx hb dX3_fillPfaffians_16 (by decide) (fun q16 => ?_) (fun q16 => ?_)
    · have hf := (br_if hf).1 q16
      exact hk49 hf hR (lv_sub hl [] rfl)
    · have hf := (br_if hf).2 q16
      refine lv_aload_n hx hb dX3_fillPfaffians_19 rfl (lv_at hl 0 rfl) ?_
      refine x_get hx hb hown hts hK hR kX3 (z_36 b) (j := 2) (by decide) fl_X3_15 (v := .ref (eB E + 38)) rfl dX3_fillPfaffians_20 ?_
      refine lv_iload_n hx hb dX3_fillPfaffians_23 rfl (lv_at hl 1 rfl) ?_
      refine lv_iload_n hx hb dX3_fillPfaffians_24 rfl (lv_at hl 1 rfl) ?_
      obtain ⟨q25, c25, hf⟩ := br_b hf
      refine x_callS (As := [.int x1]) (rest := [.int x1, .ref (eB E + 38)]) (st1 := [.int q25, .int x1, .ref (eB E + 38)]) X hR (ctJ6_bitCount_0f7a4 c25) ml_X3_71 st_J6_bitCount_0f7a4 in_J6 co_J6_bitCount_0f7a4 yo_J6_bitCount_0f7a4 (rm_ok (by decide) (by decide)) rfl hl.1 rfl rfl (Nat.le_of_ble_eq_true rfl) dX3_fillPfaffians_25 ⟨Nat.zero_le _, Nat.zero_le _⟩ (fun H locs hR => ?_)
      refine lv_iconst (v := 2) hx hb dX3_fillPfaffians_28 (by decide) ?_
      refine lv_irem hx hb dX3_fillPfaffians_29 (by decide) ?_
      refine W.eq (g2 := F0 m 30 ls [.int (irm q25 (2 : Int32)), .int x1, .ref (eB E + 38)]) rfl ?_
      refine lv_if_ne (tgt := 41) hx hb dX3_fillPfaffians_30 (by decide) (fun q30 => ?_) (fun q30 => ?_)
      · have hf := (br_if hf).2 q30
        refine lv_lconst (v := 0) hx hb dX3_fillPfaffians_41 (by decide) ?_
        exact wX3_fillPfaffians_42 X (fun hf hR hl => ih hf hR hl) (fun hf hR hl => hk49 hf hR hl) hf hR hl
      · have hf := (br_if hf).1 q30
        refine lv_aload_n hx hb dX3_fillPfaffians_33 rfl (lv_at hl 0 rfl) ?_
        refine lv_iload_n hx hb dX3_fillPfaffians_34 rfl (lv_at hl 1 rfl) ?_
        obtain ⟨q35, c35, hf⟩ := br_b hf
        refine x_callV (k := 36) (As := [.int x1]) (rest := [.int x1, .ref (eB E + 38)]) (st1 := [.long q35, .int x1, .ref (eB E + 38)]) X hR (ctX3_expand c35) ml_X3_77 im_X3_expand se_X3_expand in_X3 co_X3_expand yo_X3_expand rfl kX3 (z_36 b) (rm_ok (by decide) (by decide)) rfl hl.1 rfl rfl (Nat.le_of_ble_eq_true rfl) dX3_fillPfaffians_35 ⟨Nat.zero_le _, Nat.zero_le _⟩ (fun H locs hR => ?_)
        refine lv_goto (tgt := 42) hx hb dX3_fillPfaffians_38 (by decide) ?_
        exact wX3_fillPfaffians_42 X (fun hf hR hl => ih hf hR hl) (fun hf hR hl => hk49 hf hR hl) hf hR hl
set_option maxHeartbeats 4000000 in
set_option maxRecDepth 100000 in
theorem wX3_fillPfaffians_49 {M1 : Mem} (X : CX E p s m args c meth cX3_fillPfaffians 2 none RX3) : ∀ {M : Mem} {H : Heap} {locs : List Loc} {ls : Array Slot}, fX3_fillPfaffians_49 M = some M1 → Rl E (sh_ b) (nn b) s.heap M H locs → lv_has ls 2 [] → W p l e (rm 3 0 0) s m args below meth c H locs 0 0 (MQ below (qq E none (sh_ b) (nn b) M1) args s 0 0 (fr E)) (F0 m 49 ls []) := by
  obtain ⟨hx, hb, hr, hml, hown, hts, hK, hN, hO, hlk, hbs⟩ := id X
  intro M H locs ls hf hR hl
  unfold fX3_fillPfaffians_49 at hf
  cases hf
  exact x_vret hx hb hr hlk hR dX3_fillPfaffians_49
set_option maxHeartbeats 4000000 in
set_option maxRecDepth 100000 in
theorem wX3_fillPfaffians_0 {M1 : Mem} (X : CX E p s m args c meth cX3_fillPfaffians 2 none RX3) : ∀ {M : Mem} {H : Heap} {locs : List Loc} {ls : Array Slot}, fX3_fillPfaffians M = some M1 → Rl E (sh_ b) (nn b) s.heap M H locs → lv_has ls 2 [(0, .ref (eB E + 36))] → W p l e (rm 3 0 0) s m args below meth c H locs 0 0 (MQ below (qq E none (sh_ b) (nn b) M1) args s 0 0 (fr E)) (F0 m 0 ls []) := by
  obtain ⟨hx, hb, hr, hml, hown, hts, hK, hN, hO, hlk, hbs⟩ := id X
  intro M H locs ls hf hR hl
  unfold fX3_fillPfaffians at hf
  refine lv_aload_n hx hb dX3_fillPfaffians_0 rfl (lv_at hl 0 rfl) ?_
  refine x_get hx hb hown hts hK hR kX3 (z_36 b) (j := 2) (by decide) fl_X3_15 (v := .ref (eB E + 38)) rfl dX3_fillPfaffians_1 ?_
  refine lv_iconst (v := 0) hx hb dX3_fillPfaffians_4 (by decide) ?_
  refine lv_lconst (v := 1) hx hb dX3_fillPfaffians_5 (by decide) ?_
  refine x_last hx hb hK hR (z_38 b) (by decide) dX3_fillPfaffians_6 (fun H locs hR => ?_)
  obtain ⟨M6, e6⟩ : ∃ y : Mem, y = (sL M 38 (ix (0 : Int32)) (1 : Int64)) := ⟨_, rfl⟩
  have hf := nx_at e6 hf
  have hR : Rl E (sh_ b) (nn b) s.heap M6 H locs := by rw [e6]; exact hR
  refine lv_iconst (v := 1) hx hb dX3_fillPfaffians_7 (by decide) ?_
  refine lv_istore_n (lv' := [(1, .int (1 : Int32)), (0, .ref (eB E + 36))]) hx hb dX3_fillPfaffians_8 rfl hl (by decide) rfl (fun ls hl => ?_)
  exact wX3_fillPfaffians_9 X (fun hf hR hl => wX3_fillPfaffians_49 X hf hR hl) FU hf hR (lv_sub hl [1, 0] rfl)
theorem ctX3_fillPfaffians {l : Launch} {E : Ge} {b : Bool} {M : Mem} {M1 : Mem} (h : fX3_fillPfaffians M = some M1) : CT l E yX3_fillPfaffians cX3_fillPfaffians 2 none 3 0 0 [.ref (eB E + 36)] none (sh_ b) (nn b) M (sh_ b) (nn b) M1 := by
  refine met_of (by decide) (Nat.le_of_ble_eq_true rfl) ?_
  intro p e s m args below meth c X _ hR ls hl
  exact wX3_fillPfaffians_0 X h hR hl
def fX3_shareAmong_116 (k18 : Int32 → Int32 → Int32 → Int32 → Int32 → Mem → Option (Int32 × Mem)) (k83 : Mem → Option (Int32 × Mem)) (k122 : Int32 → Mem → Option (Int32 × Mem)) (x1 : Int32) (x2 : Int32) (x3 : Int32) (x4 : Int32) (x5 : Int32) (M : Mem) : Option (Int32 × Mem) := nx (x5 + (1 : Int32)) (fun v116 => k18 x1 x2 x3 x4 v116 M)
def fX3_shareAmong_97 (k18 : Int32 → Int32 → Int32 → Int32 → Int32 → Mem → Option (Int32 × Mem)) (k83 : Mem → Option (Int32 × Mem)) (k122 : Int32 → Mem → Option (Int32 × Mem)) (x1 : Int32) (x3 : Int32) (x4 : Int32) (x5 : Int32) (y6 : Int64) (s0 : Int32) (M : Mem) : Option (Int32 × Mem) := (if inb x5 8 = true then nx (sL M 39 (ix x5) (labs y6)) (fun M109 => nx (-x3) (fun v112 => nx (x4 + (1 : Int32)) (fun v113 => fX3_shareAmong_116 k18 k83 k122 x1 s0 v112 v113 x5 M109))) else none)
def fX3_shareAmong_85 (k18 : Int32 → Int32 → Int32 → Int32 → Int32 → Mem → Option (Int32 × Mem)) (k83 : Mem → Option (Int32 × Mem)) (k122 : Int32 → Mem → Option (Int32 × Mem)) (x1 : Int32) (x3 : Int32) (x4 : Int32) (x5 : Int32) (y6 : Int64) (M : Mem) : Option (Int32 × Mem) := (if 0 ≤ (lg_cmp y6 (0 : Int64)) then fX3_shareAmong_97 k18 k83 k122 x1 x3 x4 x5 y6 (0 : Int32) M else fX3_shareAmong_97 k18 k83 k122 x1 x3 x4 x5 y6 (1 : Int32) M)
def fX3_shareAmong_80 (k18 : Int32 → Int32 → Int32 → Int32 → Int32 → Mem → Option (Int32 × Mem)) (k83 : Mem → Option (Int32 × Mem)) (k122 : Int32 → Mem → Option (Int32 × Mem)) (x1 : Int32) (x3 : Int32) (x4 : Int32) (x5 : Int32) (y6 : Int64) (s0 : Int32) (s1 : Int32) (M : Mem) : Option (Int32 × Mem) := (if s0 = s1 then fX3_shareAmong_85 k18 k83 k122 x1 x3 x4 x5 y6 M else k83 M)
def fX3_shareAmong_18 (k83 : Mem → Option (Int32 × Mem)) (k122 : Int32 → Mem → Option (Int32 × Mem)) : Nat → Int32 → Int32 → Int32 → Int32 → Int32 → Mem → Option (Int32 × Mem)
  | 0, _, _, _, _, _, _ => none
  | n + 1, x1, x2, x3, x4, x5, M => (if (M.1 36 5) ≤ x5 then k122 x4 M else (if ((x1 >>> (x5 &&& 31)) &&& (1 : Int32)) = 0 then fX3_shareAmong_116 (fX3_shareAmong_18 k83 k122 n) k83 k122 x1 x2 x3 x4 x5 M else (if inb (x1 ^^^ ((1 : Int32) <<< (x5 &&& 31))) 256 = true then nx (x3.toInt64 * (M.2 38 (ix (x1 ^^^ ((1 : Int32) <<< (x5 &&& 31)))))) (fun v53 => (if (lg_cmp v53 (0 : Int64)) = 0 then k83 M else (if x4 ≤ 0 then fX3_shareAmong_85 (fX3_shareAmong_18 k83 k122 n) k83 k122 x1 x3 x4 x5 v53 M else (if 0 ≤ (lg_cmp v53 (0 : Int64)) then fX3_shareAmong_80 (fX3_shareAmong_18 k83 k122 n) k83 k122 x1 x3 x4 x5 v53 x2 (0 : Int32) M else fX3_shareAmong_80 (fX3_shareAmong_18 k83 k122 n) k83 k122 x1 x3 x4 x5 v53 x2 (1 : Int32) M)))) else none)))
def fX3_shareAmong_83 (M : Mem) : Option (Int32 × Mem) := some ((0 : Int32), M)
def fX3_shareAmong_132 (s0 : Int32) (M : Mem) : Option (Int32 × Mem) := some ((s0 &&& 1), M)
def fX3_shareAmong_122 (x4 : Int32) (M : Mem) : Option (Int32 × Mem) := (if x4 ≤ 0 then fX3_shareAmong_132 (0 : Int32) M else fX3_shareAmong_132 (1 : Int32) M)
def fX3_shareAmong (x1 : Int32) (M : Mem) : Option (Int32 × Mem) := (fJ7_fill_d0a16 39 8 (0 : Int64) M).bind (fun q5 => fX3_shareAmong_18 fX3_shareAmong_83 fX3_shareAmong_122 FU x1 (0 : Int32) (1 : Int32) (0 : Int32) (0 : Int32) q5)
set_option maxHeartbeats 4000000 in
set_option maxRecDepth 100000 in
theorem wX3_shareAmong_116 {r : Int32} {M1 : Mem} {k18 : Int32 → Int32 → Int32 → Int32 → Int32 → Mem → Option (Int32 × Mem)} {k83 : Mem → Option (Int32 × Mem)} {k122 : Int32 → Mem → Option (Int32 × Mem)} (X : CX E p s m args c meth cX3_shareAmong 8 (some .boolean) RX3) (hk18 : ∀ {x1 : Int32} {x2 : Int32} {x3 : Int32} {x4 : Int32} {x5 : Int32} {M : Mem} {H : Heap} {locs : List Loc} {ls : Array Slot}, k18 x1 x2 x3 x4 x5 M = some (r, M1) → Rl E (sh_ b) (nn b) s.heap M H locs → lv_has ls 8 [(0, .ref (eB E + 36)), (1, .int x1), (2, .int x2), (3, .int x3), (4, .int x4), (5, .int x5)] → W p l e (rm 2 0 0) s m args below meth c H locs 0 0 (MQ below (qq E (some (.int r)) (sh_ b) (nn b) M1) args s 0 0 (fr E)) (F0 m 18 ls [])) (hk83 : ∀ {M : Mem} {H : Heap} {locs : List Loc} {ls : Array Slot}, k83 M = some (r, M1) → Rl E (sh_ b) (nn b) s.heap M H locs → lv_has ls 8 [] → W p l e (rm 2 0 0) s m args below meth c H locs 0 0 (MQ below (qq E (some (.int r)) (sh_ b) (nn b) M1) args s 0 0 (fr E)) (F0 m 83 ls [])) (hk122 : ∀ {x4 : Int32} {M : Mem} {H : Heap} {locs : List Loc} {ls : Array Slot}, k122 x4 M = some (r, M1) → Rl E (sh_ b) (nn b) s.heap M H locs → lv_has ls 8 [(4, .int x4)] → W p l e (rm 2 0 0) s m args below meth c H locs 0 0 (MQ below (qq E (some (.int r)) (sh_ b) (nn b) M1) args s 0 0 (fr E)) (F0 m 122 ls [])) : ∀ {x1 : Int32} {x2 : Int32} {x3 : Int32} {x4 : Int32} {x5 : Int32} {M : Mem} {H : Heap} {locs : List Loc} {ls : Array Slot}, fX3_shareAmong_116 k18 k83 k122 x1 x2 x3 x4 x5 M = some (r, M1) → Rl E (sh_ b) (nn b) s.heap M H locs → lv_has ls 8 [(0, .ref (eB E + 36)), (1, .int x1), (2, .int x2), (3, .int x3), (4, .int x4), (5, .int x5)] → W p l e (rm 2 0 0) s m args below meth c H locs 0 0 (MQ below (qq E (some (.int r)) (sh_ b) (nn b) M1) args s 0 0 (fr E)) (F0 m 116 ls []) := by
  obtain ⟨hx, hb, hr, hml, hown, hts, hK, hN, hO, hlk, hbs⟩ := id X
  intro x1 x2 x3 x4 x5 M H locs ls hf hR hl
  unfold fX3_shareAmong_116 at hf
  obtain ⟨v116, e116⟩ : ∃ y : Int32, y = (x5 + (1 : Int32)) := ⟨_, rfl⟩
  have hf := nx_at e116 hf
  refine lv_iinc (v := v116) (lv' := [(5, .int v116), (0, .ref (eB E + 36)), (1, .int x1), (2, .int x2), (3, .int x3), (4, .int x4)]) hx hb dX3_shareAmong_116 hl (k := 5) rfl (by rw [e116]; rfl) (by decide) rfl (fun ls hl => ?_)
  refine lv_goto (tgt := 18) hx hb dX3_shareAmong_119 (by decide) ?_
  exact hk18 hf hR (lv_sub hl [1, 2, 3, 4, 5, 0] rfl)
set_option maxHeartbeats 4000000 in
set_option maxRecDepth 100000 in
theorem wX3_shareAmong_97 {r : Int32} {M1 : Mem} {k18 : Int32 → Int32 → Int32 → Int32 → Int32 → Mem → Option (Int32 × Mem)} {k83 : Mem → Option (Int32 × Mem)} {k122 : Int32 → Mem → Option (Int32 × Mem)} (X : CX E p s m args c meth cX3_shareAmong 8 (some .boolean) RX3) (hk18 : ∀ {x1 : Int32} {x2 : Int32} {x3 : Int32} {x4 : Int32} {x5 : Int32} {M : Mem} {H : Heap} {locs : List Loc} {ls : Array Slot}, k18 x1 x2 x3 x4 x5 M = some (r, M1) → Rl E (sh_ b) (nn b) s.heap M H locs → lv_has ls 8 [(0, .ref (eB E + 36)), (1, .int x1), (2, .int x2), (3, .int x3), (4, .int x4), (5, .int x5)] → W p l e (rm 2 0 0) s m args below meth c H locs 0 0 (MQ below (qq E (some (.int r)) (sh_ b) (nn b) M1) args s 0 0 (fr E)) (F0 m 18 ls [])) (hk83 : ∀ {M : Mem} {H : Heap} {locs : List Loc} {ls : Array Slot}, k83 M = some (r, M1) → Rl E (sh_ b) (nn b) s.heap M H locs → lv_has ls 8 [] → W p l e (rm 2 0 0) s m args below meth c H locs 0 0 (MQ below (qq E (some (.int r)) (sh_ b) (nn b) M1) args s 0 0 (fr E)) (F0 m 83 ls [])) (hk122 : ∀ {x4 : Int32} {M : Mem} {H : Heap} {locs : List Loc} {ls : Array Slot}, k122 x4 M = some (r, M1) → Rl E (sh_ b) (nn b) s.heap M H locs → lv_has ls 8 [(4, .int x4)] → W p l e (rm 2 0 0) s m args below meth c H locs 0 0 (MQ below (qq E (some (.int r)) (sh_ b) (nn b) M1) args s 0 0 (fr E)) (F0 m 122 ls [])) : ∀ {x1 : Int32} {x3 : Int32} {x4 : Int32} {x5 : Int32} {y6 : Int64} {s0 : Int32} {M : Mem} {H : Heap} {locs : List Loc} {ls : Array Slot}, fX3_shareAmong_97 k18 k83 k122 x1 x3 x4 x5 y6 s0 M = some (r, M1) → Rl E (sh_ b) (nn b) s.heap M H locs → lv_has ls 8 [(0, .ref (eB E + 36)), (1, .int x1), (3, .int x3), (4, .int x4), (5, .int x5), (6, .long y6)] → W p l e (rm 2 0 0) s m args below meth c H locs 0 0 (MQ below (qq E (some (.int r)) (sh_ b) (nn b) M1) args s 0 0 (fr E)) (F0 m 97 ls [.int s0]) := by
  obtain ⟨hx, hb, hr, hml, hown, hts, hK, hN, hO, hlk, hbs⟩ := id X
  intro x1 x3 x4 x5 y6 s0 M H locs ls hf hR hl
  unfold fX3_shareAmong_97 at hf
  refine lv_istore_n (lv' := [(2, .int s0), (0, .ref (eB E + 36)), (1, .int x1), (3, .int x3), (4, .int x4), (5, .int x5), (6, .long y6)]) hx hb dX3_shareAmong_97 rfl hl (by decide) rfl (fun ls hl => ?_)
  refine lv_aload_n hx hb dX3_shareAmong_98 rfl (lv_at hl 1 rfl) ?_
  refine x_get hx hb hown hts hK hR kX3 (z_36 b) (j := 3) (by decide) fl_X3_19 (v := .ref (eB E + 39)) rfl dX3_shareAmong_99 ?_
  refine lv_iload hx hb dX3_shareAmong_102 (lv_at hl 5 rfl) ?_
  refine lv_lload hx hb dX3_shareAmong_104 (lv_at hl 6 rfl) ?_
  refine va_mabs_long hx hb (by rw [hml]; exact hl.1.symm) hown (hts _ ml_X3_105) (hts _ st_absl) (hts _ in_J9) (hts _ co_absl) (by decide) (Nat.le_of_ble_eq_true rfl) (Nat.zero_le _) (Nat.zero_le _) dX3_shareAmong_106 ?_
  refine W.eq (g2 := F0 m 109 ls [.long (labs y6), .int x5, .ref (eB E + 39)]) rfl ?_
  obtain ⟨g109, hf⟩ := br_g hf
  refine x_last hx hb hK hR (z_39 b) g109 dX3_shareAmong_109 (fun H locs hR => ?_)
  obtain ⟨M109, e109⟩ : ∃ y : Mem, y = (sL M 39 (ix x5) (labs y6)) := ⟨_, rfl⟩
  have hf := nx_at e109 hf
  have hR : Rl E (sh_ b) (nn b) s.heap M109 H locs := by rw [e109]; exact hR
  refine lv_iload_n hx hb dX3_shareAmong_110 rfl (lv_at hl 3 rfl) ?_
  refine lv_ineg hx hb dX3_shareAmong_111 ?_
  refine lv_topi (fun v112 e112 => ?_)
  have hf := nx_at e112 hf
  refine lv_istore_n (lv' := [(3, .int v112), (2, .int s0), (0, .ref (eB E + 36)), (1, .int x1), (4, .int x4), (5, .int x5), (6, .long y6)]) hx hb dX3_shareAmong_112 rfl hl (by decide) rfl (fun ls hl => ?_)
  obtain ⟨v113, e113⟩ : ∃ y : Int32, y = (x4 + (1 : Int32)) := ⟨_, rfl⟩
  have hf := nx_at e113 hf
  refine lv_iinc (v := v113) (lv' := [(4, .int v113), (3, .int v112), (2, .int s0), (0, .ref (eB E + 36)), (1, .int x1), (5, .int x5), (6, .long y6)]) hx hb dX3_shareAmong_113 hl (k := 4) rfl (by rw [e113]; rfl) (by decide) rfl (fun ls hl => ?_)
  exact wX3_shareAmong_116 X (fun hf hR hl => hk18 hf hR hl) (fun hf hR hl => hk83 hf hR hl) (fun hf hR hl => hk122 hf hR hl) hf hR (lv_sub hl [3, 4, 2, 1, 0, 5] rfl)
set_option maxHeartbeats 4000000 in
set_option maxRecDepth 100000 in
theorem wX3_shareAmong_85 {r : Int32} {M1 : Mem} {k18 : Int32 → Int32 → Int32 → Int32 → Int32 → Mem → Option (Int32 × Mem)} {k83 : Mem → Option (Int32 × Mem)} {k122 : Int32 → Mem → Option (Int32 × Mem)} (X : CX E p s m args c meth cX3_shareAmong 8 (some .boolean) RX3) (hk18 : ∀ {x1 : Int32} {x2 : Int32} {x3 : Int32} {x4 : Int32} {x5 : Int32} {M : Mem} {H : Heap} {locs : List Loc} {ls : Array Slot}, k18 x1 x2 x3 x4 x5 M = some (r, M1) → Rl E (sh_ b) (nn b) s.heap M H locs → lv_has ls 8 [(0, .ref (eB E + 36)), (1, .int x1), (2, .int x2), (3, .int x3), (4, .int x4), (5, .int x5)] → W p l e (rm 2 0 0) s m args below meth c H locs 0 0 (MQ below (qq E (some (.int r)) (sh_ b) (nn b) M1) args s 0 0 (fr E)) (F0 m 18 ls [])) (hk83 : ∀ {M : Mem} {H : Heap} {locs : List Loc} {ls : Array Slot}, k83 M = some (r, M1) → Rl E (sh_ b) (nn b) s.heap M H locs → lv_has ls 8 [] → W p l e (rm 2 0 0) s m args below meth c H locs 0 0 (MQ below (qq E (some (.int r)) (sh_ b) (nn b) M1) args s 0 0 (fr E)) (F0 m 83 ls [])) (hk122 : ∀ {x4 : Int32} {M : Mem} {H : Heap} {locs : List Loc} {ls : Array Slot}, k122 x4 M = some (r, M1) → Rl E (sh_ b) (nn b) s.heap M H locs → lv_has ls 8 [(4, .int x4)] → W p l e (rm 2 0 0) s m args below meth c H locs 0 0 (MQ below (qq E (some (.int r)) (sh_ b) (nn b) M1) args s 0 0 (fr E)) (F0 m 122 ls [])) : ∀ {x1 : Int32} {x3 : Int32} {x4 : Int32} {x5 : Int32} {y6 : Int64} {M : Mem} {H : Heap} {locs : List Loc} {ls : Array Slot}, fX3_shareAmong_85 k18 k83 k122 x1 x3 x4 x5 y6 M = some (r, M1) → Rl E (sh_ b) (nn b) s.heap M H locs → lv_has ls 8 [(0, .ref (eB E + 36)), (1, .int x1), (3, .int x3), (4, .int x4), (5, .int x5), (6, .long y6)] → W p l e (rm 2 0 0) s m args below meth c H locs 0 0 (MQ below (qq E (some (.int r)) (sh_ b) (nn b) M1) args s 0 0 (fr E)) (F0 m 85 ls []) := by
  obtain ⟨hx, hb, hr, hml, hown, hts, hK, hN, hO, hlk, hbs⟩ := id X
  intro x1 x3 x4 x5 y6 M H locs ls hf hR hl
  unfold fX3_shareAmong_85 at hf
  refine lv_lload hx hb dX3_shareAmong_85 (lv_at hl 5 rfl) ?_
  refine lv_lconst (v := 0) hx hb dX3_shareAmong_87 (by decide) ?_
  refine W.lcmp hx hb dX3_shareAmong_88 ?_
  refine lv_if_ge (tgt := 96) hx hb dX3_shareAmong_89 (by decide) (fun q89 => ?_) (fun q89 => ?_)
  · have hf := (br_if hf).1 q89
    refine lv_iconst (v := 0) hx hb dX3_shareAmong_96 (by decide) ?_
    exact wX3_shareAmong_97 X (fun hf hR hl => hk18 hf hR hl) (fun hf hR hl => hk83 hf hR hl) (fun hf hR hl => hk122 hf hR hl) hf hR hl
  · have hf := (br_if hf).2 q89
    refine lv_iconst (v := 1) hx hb dX3_shareAmong_92 (by decide) ?_
    refine lv_goto (tgt := 97) hx hb dX3_shareAmong_93 (by decide) ?_
    exact wX3_shareAmong_97 X (fun hf hR hl => hk18 hf hR hl) (fun hf hR hl => hk83 hf hR hl) (fun hf hR hl => hk122 hf hR hl) hf hR hl
set_option maxHeartbeats 4000000 in
set_option maxRecDepth 100000 in
theorem wX3_shareAmong_80 {r : Int32} {M1 : Mem} {k18 : Int32 → Int32 → Int32 → Int32 → Int32 → Mem → Option (Int32 × Mem)} {k83 : Mem → Option (Int32 × Mem)} {k122 : Int32 → Mem → Option (Int32 × Mem)} (X : CX E p s m args c meth cX3_shareAmong 8 (some .boolean) RX3) (hk18 : ∀ {x1 : Int32} {x2 : Int32} {x3 : Int32} {x4 : Int32} {x5 : Int32} {M : Mem} {H : Heap} {locs : List Loc} {ls : Array Slot}, k18 x1 x2 x3 x4 x5 M = some (r, M1) → Rl E (sh_ b) (nn b) s.heap M H locs → lv_has ls 8 [(0, .ref (eB E + 36)), (1, .int x1), (2, .int x2), (3, .int x3), (4, .int x4), (5, .int x5)] → W p l e (rm 2 0 0) s m args below meth c H locs 0 0 (MQ below (qq E (some (.int r)) (sh_ b) (nn b) M1) args s 0 0 (fr E)) (F0 m 18 ls [])) (hk83 : ∀ {M : Mem} {H : Heap} {locs : List Loc} {ls : Array Slot}, k83 M = some (r, M1) → Rl E (sh_ b) (nn b) s.heap M H locs → lv_has ls 8 [] → W p l e (rm 2 0 0) s m args below meth c H locs 0 0 (MQ below (qq E (some (.int r)) (sh_ b) (nn b) M1) args s 0 0 (fr E)) (F0 m 83 ls [])) (hk122 : ∀ {x4 : Int32} {M : Mem} {H : Heap} {locs : List Loc} {ls : Array Slot}, k122 x4 M = some (r, M1) → Rl E (sh_ b) (nn b) s.heap M H locs → lv_has ls 8 [(4, .int x4)] → W p l e (rm 2 0 0) s m args below meth c H locs 0 0 (MQ below (qq E (some (.int r)) (sh_ b) (nn b) M1) args s 0 0 (fr E)) (F0 m 122 ls [])) : ∀ {x1 : Int32} {x3 : Int32} {x4 : Int32} {x5 : Int32} {y6 : Int64} {s0 : Int32} {s1 : Int32} {M : Mem} {H : Heap} {locs : List Loc} {ls : Array Slot}, fX3_shareAmong_80 k18 k83 k122 x1 x3 x4 x5 y6 s0 s1 M = some (r, M1) → Rl E (sh_ b) (nn b) s.heap M H locs → lv_has ls 8 [(0, .ref (eB E + 36)), (1, .int x1), (3, .int x3), (4, .int x4), (5, .int x5), (6, .long y6)] → W p l e (rm 2 0 0) s m args below meth c H locs 0 0 (MQ below (qq E (some (.int r)) (sh_ b) (nn b) M1) args s 0 0 (fr E)) (F0 m 80 ls [.int s1, .int s0]) := by
  obtain ⟨hx, hb, hr, hml, hown, hts, hK, hN, hO, hlk, hbs⟩ := id X
  intro x1 x3 x4 x5 y6 s0 s1 M H locs ls hf hR hl
  unfold fX3_shareAmong_80 at hf
  refine lv_icmp_eq (tgt := 85) hx hb dX3_shareAmong_80 (by decide) (fun q80 => ?_) (fun q80 => ?_)
  · have hf := (br_if hf).1 q80
    exact wX3_shareAmong_85 X (fun hf hR hl => hk18 hf hR hl) (fun hf hR hl => hk83 hf hR hl) (fun hf hR hl => hk122 hf hR hl) hf hR hl
  · have hf := (br_if hf).2 q80
    exact hk83 hf hR (lv_sub hl [] rfl)
set_option maxHeartbeats 4000000 in
set_option maxRecDepth 100000 in
theorem wX3_shareAmong_18 {r : Int32} {M1 : Mem} {k83 : Mem → Option (Int32 × Mem)} {k122 : Int32 → Mem → Option (Int32 × Mem)} (X : CX E p s m args c meth cX3_shareAmong 8 (some .boolean) RX3) (hk83 : ∀ {M : Mem} {H : Heap} {locs : List Loc} {ls : Array Slot}, k83 M = some (r, M1) → Rl E (sh_ b) (nn b) s.heap M H locs → lv_has ls 8 [] → W p l e (rm 2 0 0) s m args below meth c H locs 0 0 (MQ below (qq E (some (.int r)) (sh_ b) (nn b) M1) args s 0 0 (fr E)) (F0 m 83 ls [])) (hk122 : ∀ {x4 : Int32} {M : Mem} {H : Heap} {locs : List Loc} {ls : Array Slot}, k122 x4 M = some (r, M1) → Rl E (sh_ b) (nn b) s.heap M H locs → lv_has ls 8 [(4, .int x4)] → W p l e (rm 2 0 0) s m args below meth c H locs 0 0 (MQ below (qq E (some (.int r)) (sh_ b) (nn b) M1) args s 0 0 (fr E)) (F0 m 122 ls [])) : ∀ (n : Nat) {x1 : Int32} {x2 : Int32} {x3 : Int32} {x4 : Int32} {x5 : Int32} {M : Mem} {H : Heap} {locs : List Loc} {ls : Array Slot}, fX3_shareAmong_18 k83 k122 n x1 x2 x3 x4 x5 M = some (r, M1) → Rl E (sh_ b) (nn b) s.heap M H locs → lv_has ls 8 [(0, .ref (eB E + 36)), (1, .int x1), (2, .int x2), (3, .int x3), (4, .int x4), (5, .int x5)] → W p l e (rm 2 0 0) s m args below meth c H locs 0 0 (MQ below (qq E (some (.int r)) (sh_ b) (nn b) M1) args s 0 0 (fr E)) (F0 m 18 ls []) := by
  obtain ⟨hx, hb, hr, hml, hown, hts, hK, hN, hO, hlk, hbs⟩ := id X
  intro n
  induction n with
  | zero =>
    intro x1 x2 x3 x4 x5 M H locs ls hf hR hl
    exact absurd (show none = some _ from hf) (fun h => by cases h)
  | succ n ih =>
    intro x1 x2 x3 x4 x5 M H locs ls hf hR hl
    rw [fX3_shareAmong_18] at hf
    refine lv_iload hx hb dX3_shareAmong_18 (lv_at hl 5 rfl) ?_
    refine lv_aload_n hx hb dX3_shareAmong_20 rfl (lv_at hl 0 rfl) ?_
    refine x_get hx hb hown hts hK hR kX3 (z_36 b) (j := 5) (by decide) fl_X3_55 (v := .int (M.1 36 5)) rfl dX3_shareAmong_21 ?_
    refine lv_icmp_ge (tgt := 122) hx hb dX3_shareAmong_24 (by decide) (fun q24 => ?_) (fun q24 => ?_)
    · have hf := (br_if hf).1 q24
      exact hk122 hf hR (lv_sub hl [4] rfl)
    · have hf := (br_if hf).2 q24
      refine lv_iload_n hx hb dX3_shareAmong_27 rfl (lv_at hl 1 rfl) ?_
      refine lv_iload hx hb dX3_shareAmong_28 (lv_at hl 5 rfl) ?_
      refine lv_ishr hx hb dX3_shareAmong_30 ?_
      refine lv_iconst (v := 1) hx hb dX3_shareAmong_31 (by decide) ?_
      refine lv_iand hx hb dX3_shareAmong_32 ?_
      refine lv_if_ne (tgt := 39) hx hb dX3_shareAmong_33 (by decide) (fun q33 => ?_) (fun q33 => ?_)
      · have hf := (br_if hf).2 q33
        refine lv_iload_n hx hb dX3_shareAmong_39 rfl (lv_at hl 3 rfl) ?_
        refine lv_i2l (v := x3.toInt64) hx hb dX3_shareAmong_40 rfl ?_
        refine lv_aload_n hx hb dX3_shareAmong_41 rfl (lv_at hl 0 rfl) ?_
        refine x_get hx hb hown hts hK hR kX3 (z_36 b) (j := 2) (by decide) fl_X3_15 (v := .ref (eB E + 38)) rfl dX3_shareAmong_42 ?_
        refine lv_iload_n hx hb dX3_shareAmong_45 rfl (lv_at hl 1 rfl) ?_
        refine lv_iconst (v := 1) hx hb dX3_shareAmong_46 (by decide) ?_
        refine lv_iload hx hb dX3_shareAmong_47 (lv_at hl 5 rfl) ?_
        refine lv_ishl hx hb dX3_shareAmong_49 ?_
        refine lv_ixor hx hb dX3_shareAmong_50 ?_
        obtain ⟨g51, hf⟩ := br_g hf
        refine x_lald hx hb hK hR (z_38 b) g51 dX3_shareAmong_51 ?_
        refine lv_lmul hx hb dX3_shareAmong_52 ?_
        refine lv_topl (fun v53 e53 => ?_)
        have hf := nx_at e53 hf
        refine lv_lstore (lv' := [(6, .long v53), (0, .ref (eB E + 36)), (1, .int x1), (2, .int x2), (3, .int x3), (4, .int x4), (5, .int x5)]) hx hb dX3_shareAmong_53 hl (by decide) rfl (fun ls hl => ?_)
        refine lv_lload hx hb dX3_shareAmong_55 (lv_at hl 0 rfl) ?_
        refine lv_lconst (v := 0) hx hb dX3_shareAmong_57 (by decide) ?_
        refine W.lcmp hx hb dX3_shareAmong_58 ?_
        refine lv_if_eq (tgt := 83) hx hb dX3_shareAmong_59 (by decide) (fun q59 => ?_) (fun q59 => ?_)
        · have hf := (br_if hf).1 q59
          exact hk83 hf hR (lv_sub hl [] rfl)
        · have hf := (br_if hf).2 q59
          refine lv_iload hx hb dX3_shareAmong_62 (lv_at hl 5 rfl) ?_
          refine lv_if_le (tgt := 85) hx hb dX3_shareAmong_64 (by decide) (fun q64 => ?_) (fun q64 => ?_)
          · have hf := (br_if hf).1 q64
            exact wX3_shareAmong_85 X (fun hf hR hl => ih hf hR hl) (fun hf hR hl => hk83 hf hR hl) (fun hf hR hl => hk122 hf hR hl) hf hR (lv_sub hl [1, 2, 4, 5, 6, 0] rfl)
          · have hf := (br_if hf).2 q64
            refine lv_iload_n hx hb dX3_shareAmong_67 rfl (lv_at hl 3 rfl) ?_
            refine lv_lload hx hb dX3_shareAmong_68 (lv_at hl 0 rfl) ?_
            refine lv_lconst (v := 0) hx hb dX3_shareAmong_70 (by decide) ?_
            refine W.lcmp hx hb dX3_shareAmong_71 ?_
            refine lv_if_ge (tgt := 79) hx hb dX3_shareAmong_72 (by decide) (fun q72 => ?_) (fun q72 => ?_)
            · have hf := (br_if hf).1 q72
              refine lv_iconst (v := 0) hx hb dX3_shareAmong_79 (by decide) ?_
              exact wX3_shareAmong_80 X (fun hf hR hl => ih hf hR hl) (fun hf hR hl => hk83 hf hR hl) (fun hf hR hl => hk122 hf hR hl) hf hR (lv_sub hl [1, 2, 4, 5, 6, 0] rfl)
            · have hf := (br_if hf).2 q72
              refine lv_iconst (v := 1) hx hb dX3_shareAmong_75 (by decide) ?_
              refine lv_goto (tgt := 80) hx hb dX3_shareAmong_76 (by decide) ?_
              exact wX3_shareAmong_80 X (fun hf hR hl => ih hf hR hl) (fun hf hR hl => hk83 hf hR hl) (fun hf hR hl => hk122 hf hR hl) hf hR (lv_sub hl [1, 2, 4, 5, 6, 0] rfl)
      · have hf := (br_if hf).1 q33
        refine lv_goto (tgt := 116) hx hb dX3_shareAmong_36 (by decide) ?_
        exact wX3_shareAmong_116 X (fun hf hR hl => ih hf hR hl) (fun hf hR hl => hk83 hf hR hl) (fun hf hR hl => hk122 hf hR hl) hf hR hl
set_option maxHeartbeats 4000000 in
set_option maxRecDepth 100000 in
theorem wX3_shareAmong_83 {r : Int32} {M1 : Mem} (X : CX E p s m args c meth cX3_shareAmong 8 (some .boolean) RX3) : ∀ {M : Mem} {H : Heap} {locs : List Loc} {ls : Array Slot}, fX3_shareAmong_83 M = some (r, M1) → Rl E (sh_ b) (nn b) s.heap M H locs → lv_has ls 8 [] → W p l e (rm 2 0 0) s m args below meth c H locs 0 0 (MQ below (qq E (some (.int r)) (sh_ b) (nn b) M1) args s 0 0 (fr E)) (F0 m 83 ls []) := by
  obtain ⟨hx, hb, hr, hml, hown, hts, hK, hN, hO, hlk, hbs⟩ := id X
  intro M H locs ls hf hR hl
  unfold fX3_shareAmong_83 at hf
  refine lv_iconst (v := 0) hx hb dX3_shareAmong_83 (by decide) ?_
  cases hf
  exact x_zret hx hb hr hlk hR (by decide) dX3_shareAmong_84
set_option maxHeartbeats 4000000 in
set_option maxRecDepth 100000 in
theorem wX3_shareAmong_132 {r : Int32} {M1 : Mem} (X : CX E p s m args c meth cX3_shareAmong 8 (some .boolean) RX3) : ∀ {s0 : Int32} {M : Mem} {H : Heap} {locs : List Loc} {ls : Array Slot}, fX3_shareAmong_132 s0 M = some (r, M1) → Rl E (sh_ b) (nn b) s.heap M H locs → lv_has ls 8 [] → W p l e (rm 2 0 0) s m args below meth c H locs 0 0 (MQ below (qq E (some (.int r)) (sh_ b) (nn b) M1) args s 0 0 (fr E)) (F0 m 132 ls [.int s0]) := by
  obtain ⟨hx, hb, hr, hml, hown, hts, hK, hN, hO, hlk, hbs⟩ := id X
  intro s0 M H locs ls hf hR hl
  unfold fX3_shareAmong_132 at hf
  cases hf
  exact x_zret hx hb hr hlk hR rfl dX3_shareAmong_132
set_option maxHeartbeats 4000000 in
set_option maxRecDepth 100000 in
theorem wX3_shareAmong_122 {r : Int32} {M1 : Mem} (X : CX E p s m args c meth cX3_shareAmong 8 (some .boolean) RX3) : ∀ {x4 : Int32} {M : Mem} {H : Heap} {locs : List Loc} {ls : Array Slot}, fX3_shareAmong_122 x4 M = some (r, M1) → Rl E (sh_ b) (nn b) s.heap M H locs → lv_has ls 8 [(4, .int x4)] → W p l e (rm 2 0 0) s m args below meth c H locs 0 0 (MQ below (qq E (some (.int r)) (sh_ b) (nn b) M1) args s 0 0 (fr E)) (F0 m 122 ls []) := by
  obtain ⟨hx, hb, hr, hml, hown, hts, hK, hN, hO, hlk, hbs⟩ := id X
  intro x4 M H locs ls hf hR hl
  unfold fX3_shareAmong_122 at hf
  refine lv_iload hx hb dX3_shareAmong_122 (lv_at hl 0 rfl) ?_
  refine lv_if_le (tgt := 131) hx hb dX3_shareAmong_124 (by decide) (fun q124 => ?_) (fun q124 => ?_)
  · have hf := (br_if hf).1 q124
    refine lv_iconst (v := 0) hx hb dX3_shareAmong_131 (by decide) ?_
    exact wX3_shareAmong_132 X hf hR (lv_sub hl [] rfl)
  · have hf := (br_if hf).2 q124
    refine lv_iconst (v := 1) hx hb dX3_shareAmong_127 (by decide) ?_
    refine lv_goto (tgt := 132) hx hb dX3_shareAmong_128 (by decide) ?_
    exact wX3_shareAmong_132 X hf hR (lv_sub hl [] rfl)
set_option maxHeartbeats 4000000 in
set_option maxRecDepth 100000 in
theorem wX3_shareAmong_0 {r : Int32} {M1 : Mem} (X : CX E p s m args c meth cX3_shareAmong 8 (some .boolean) RX3) : ∀ {x1 : Int32} {M : Mem} {H : Heap} {locs : List Loc} {ls : Array Slot}, fX3_shareAmong x1 M = some (r, M1) → Rl E (sh_ b) (nn b) s.heap M H locs → lv_has ls 8 [(0, .ref (eB E + 36)), (1, .int x1)] → W p l e (rm 2 0 0) s m args below meth c H locs 0 0 (MQ below (qq E (some (.int r)) (sh_ b) (nn b) M1) args s 0 0 (fr E)) (F0 m 0 ls []) := by
  obtain ⟨hx, hb, hr, hml, hown, hts, hK, hN, hO, hlk, hbs⟩ := id X
  intro x1 M H locs ls hf hR hl
  unfold fX3_shareAmong at hf
  refine lv_aload_n hx hb dX3_shareAmong_0 rfl (lv_at hl 0 rfl) ?_
  refine x_get hx hb hown hts hK hR kX3 (z_36 b) (j := 3) (by decide) fl_X3_19 (v := .ref (eB E + 39)) rfl dX3_shareAmong_1 ?_
  refine lv_lconst (v := 0) hx hb dX3_shareAmong_4 (by decide) ?_
  obtain ⟨q5, c5, hf⟩ := br_b hf
  refine x_callS (As := [.ref (eB E + 39), .long (0 : Int64)]) (rest := []) (st1 := []) X hR (ctJ7_fill_d0a16 (z_39 b) c5) ml_X3_99 st_J7_fill_d0a16 in_J7 co_J7_fill_d0a16 yo_J7_fill_d0a16 (rm_ok (by decide) (by decide)) rfl hl.1 rfl rfl (Nat.le_of_ble_eq_true rfl) dX3_shareAmong_5 ⟨Nat.zero_le _, Nat.zero_le _⟩ (fun H locs hR => ?_)
  refine lv_iconst (v := 0) hx hb dX3_shareAmong_8 (by decide) ?_
  refine lv_istore_n (lv' := [(2, .int (0 : Int32)), (0, .ref (eB E + 36)), (1, .int x1)]) hx hb dX3_shareAmong_9 rfl hl (by decide) rfl (fun ls hl => ?_)
  refine lv_iconst (v := 1) hx hb dX3_shareAmong_10 (by decide) ?_
  refine lv_istore_n (lv' := [(3, .int (1 : Int32)), (2, .int (0 : Int32)), (0, .ref (eB E + 36)), (1, .int x1)]) hx hb dX3_shareAmong_11 rfl hl (by decide) rfl (fun ls hl => ?_)
  refine lv_iconst (v := 0) hx hb dX3_shareAmong_12 (by decide) ?_
  refine lv_istore (lv' := [(4, .int (0 : Int32)), (3, .int (1 : Int32)), (2, .int (0 : Int32)), (0, .ref (eB E + 36)), (1, .int x1)]) hx hb dX3_shareAmong_13 hl (by decide) rfl (fun ls hl => ?_)
  refine lv_iconst (v := 0) hx hb dX3_shareAmong_15 (by decide) ?_
  refine lv_istore (lv' := [(5, .int (0 : Int32)), (4, .int (0 : Int32)), (3, .int (1 : Int32)), (2, .int (0 : Int32)), (0, .ref (eB E + 36)), (1, .int x1)]) hx hb dX3_shareAmong_16 hl (by decide) rfl (fun ls hl => ?_)
  exact wX3_shareAmong_18 X (fun hf hR hl => wX3_shareAmong_83 X hf hR hl) (fun hf hR hl => wX3_shareAmong_122 X hf hR hl) FU hf hR (lv_sub hl [4, 5, 3, 2, 1, 0] rfl)
theorem ctX3_shareAmong {l : Launch} {E : Ge} {b : Bool} {M : Mem} {x1 : Int32} {r : Int32} {M1 : Mem} (h : fX3_shareAmong x1 M = some (r, M1)) : CT l E yX3_shareAmong cX3_shareAmong 8 (some .boolean) 2 0 0 [.ref (eB E + 36), .int x1] (some (.int r)) (sh_ b) (nn b) M (sh_ b) (nn b) M1 := by
  refine met_of (by decide) (Nat.le_of_ble_eq_true rfl) ?_
  intro p e s m args below meth c X _ hR ls hl
  exact wX3_shareAmong_0 X h hR hl
def fX3_nobodyGains_15 (M : Mem) (k49 : Int32 → Int64 → Option Int32) : Nat → Int32 → Int64 → Int32 → Option Int32
  | 0, _, _, _ => none
  | n + 1, x1, y2, x4 => (if (M.1 36 5) ≤ x4 then k49 x1 y2 else (fX3_gainOf M x1 x4).bind (fun q29 => (if inb x4 8 = true then nx (y2 + (q29.toInt64 * (M.2 39 (ix x4)))) (fun v42 => nx (x4 + (1 : Int32)) (fun v43 => fX3_nobodyGains_15 M k49 n x1 v42 v43)) else none)))
def fX3_nobodyGains_49 (M : Mem) (k2 : Int32 → Option Int32) (k55 : Option Int32) (k63 : Option Int32) (x1 : Int32) (y2 : Int64) : Option Int32 := (if (lg_cmp y2 (0 : Int64)) ≤ 0 then nx (x1 + (1 : Int32)) (fun v57 => k2 v57) else k55)
def fX3_nobodyGains_2 (M : Mem) (k55 : Option Int32) (k63 : Option Int32) : Nat → Int32 → Option Int32
  | 0, _ => none
  | n + 1, x1 => (if (M.1 36 5) ≤ x1 then k63 else fX3_nobodyGains_15 M (fX3_nobodyGains_49 M (fX3_nobodyGains_2 M k55 k63 n) k55 k63) FU x1 (0 : Int64) (0 : Int32))
def fX3_nobodyGains_55 (M : Mem) : Option Int32 := some (0 : Int32)
def fX3_nobodyGains_63 (M : Mem) : Option Int32 := some (1 : Int32)
def fX3_nobodyGains (M : Mem) : Option Int32 := fX3_nobodyGains_2 M (fX3_nobodyGains_55 M) (fX3_nobodyGains_63 M) FU (0 : Int32)
set_option maxHeartbeats 4000000 in
set_option maxRecDepth 100000 in
theorem wX3_nobodyGains_15 {r : Int32} {M : Mem} {k49 : Int32 → Int64 → Option Int32} (X : CX E p s m args c meth cX3_nobodyGains 5 (some .boolean) RX3) (hk49 : ∀ {x1 : Int32} {y2 : Int64} {H : Heap} {locs : List Loc} {ls : Array Slot}, k49 x1 y2 = some r → Rl E (sh_ b) (nn b) s.heap M H locs → lv_has ls 5 [(0, .ref (eB E + 36)), (1, .int x1), (2, .long y2)] → W p l e (rm 2 0 0) s m args below meth c H locs 0 0 (MQ below (qq E (some (.int r)) (sh_ b) (nn b) M) args s 0 0 (fr E)) (F0 m 49 ls [])) : ∀ (n : Nat) {x1 : Int32} {y2 : Int64} {x4 : Int32} {H : Heap} {locs : List Loc} {ls : Array Slot}, fX3_nobodyGains_15 M k49 n x1 y2 x4 = some r → Rl E (sh_ b) (nn b) s.heap M H locs → lv_has ls 5 [(0, .ref (eB E + 36)), (1, .int x1), (2, .long y2), (4, .int x4)] → W p l e (rm 2 0 0) s m args below meth c H locs 0 0 (MQ below (qq E (some (.int r)) (sh_ b) (nn b) M) args s 0 0 (fr E)) (F0 m 15 ls []) := by
  obtain ⟨hx, hb, hr, hml, hown, hts, hK, hN, hO, hlk, hbs⟩ := id X
  intro n
  induction n with
  | zero =>
    intro x1 y2 x4 H locs ls hf hR hl
    exact absurd (show none = some _ from hf) (fun h => by cases h)
  | succ n ih =>
    intro x1 y2 x4 H locs ls hf hR hl
    rw [fX3_nobodyGains_15] at hf
    refine lv_iload hx hb dX3_nobodyGains_15 (lv_at hl 3 rfl) ?_
    refine lv_aload_n hx hb dX3_nobodyGains_17 rfl (lv_at hl 0 rfl) ?_
    refine x_get hx hb hown hts hK hR kX3 (z_36 b) (j := 5) (by decide) fl_X3_55 (v := .int (M.1 36 5)) rfl dX3_nobodyGains_18 ?_
    refine lv_icmp_ge (tgt := 49) hx hb dX3_nobodyGains_21 (by decide) (fun q21 => ?_) (fun q21 => ?_)
    · have hf := (br_if hf).1 q21
      exact hk49 hf hR (lv_sub hl [0, 1, 2] rfl)
    · have hf := (br_if hf).2 q21
      refine lv_lload_n hx hb dX3_nobodyGains_24 rfl (lv_at hl 2 rfl) ?_
      refine lv_aload_n hx hb dX3_nobodyGains_25 rfl (lv_at hl 0 rfl) ?_
      refine lv_iload_n hx hb dX3_nobodyGains_26 rfl (lv_at hl 1 rfl) ?_
      refine lv_iload hx hb dX3_nobodyGains_27 (lv_at hl 3 rfl) ?_
      obtain ⟨q29, c29, hf⟩ := br_b hf
      refine x_callV (k := 36) (As := [.int x1, .int x4]) (rest := [.long y2]) (st1 := [.int q29, .long y2]) X hR (ctX3_gainOf c29) ml_X3_68 im_X3_gainOf se_X3_gainOf in_X3 co_X3_gainOf yo_X3_gainOf rfl kX3 (z_36 b) (rm_ok (by decide) (by decide)) rfl hl.1 rfl rfl (Nat.le_of_ble_eq_true rfl) dX3_nobodyGains_29 ⟨Nat.zero_le _, Nat.zero_le _⟩ (fun H locs hR => ?_)
      refine lv_i2l (v := q29.toInt64) hx hb dX3_nobodyGains_32 rfl ?_
      refine lv_aload_n hx hb dX3_nobodyGains_33 rfl (lv_at hl 0 rfl) ?_
      refine x_get hx hb hown hts hK hR kX3 (z_36 b) (j := 3) (by decide) fl_X3_19 (v := .ref (eB E + 39)) rfl dX3_nobodyGains_34 ?_
      refine lv_iload hx hb dX3_nobodyGains_37 (lv_at hl 3 rfl) ?_
      obtain ⟨g39, hf⟩ := br_g hf
      refine x_lald hx hb hK hR (z_39 b) g39 dX3_nobodyGains_39 ?_
      refine lv_lmul hx hb dX3_nobodyGains_40 ?_
      refine lv_ladd hx hb dX3_nobodyGains_41 ?_
      refine lv_topl (fun v42 e42 => ?_)
      have hf := nx_at e42 hf
      refine lv_lstore_n (lv' := [(2, .long v42), (0, .ref (eB E + 36)), (1, .int x1), (4, .int x4)]) hx hb dX3_nobodyGains_42 rfl hl (by decide) rfl (fun ls hl => ?_)
      obtain ⟨v43, e43⟩ : ∃ y : Int32, y = (x4 + (1 : Int32)) := ⟨_, rfl⟩
      have hf := nx_at e43 hf
      refine lv_iinc (v := v43) (lv' := [(4, .int v43), (2, .long v42), (0, .ref (eB E + 36)), (1, .int x1)]) hx hb dX3_nobodyGains_43 hl (k := 3) rfl (by rw [e43]; rfl) (by decide) rfl (fun ls hl => ?_)
      refine lv_goto (tgt := 15) hx hb dX3_nobodyGains_46 (by decide) ?_
      exact ih hf hR (lv_sub hl [2, 3, 1, 0] rfl)
set_option maxHeartbeats 4000000 in
set_option maxRecDepth 100000 in
theorem wX3_nobodyGains_49 {r : Int32} {M : Mem} {k2 : Int32 → Option Int32} {k55 : Option Int32} {k63 : Option Int32} (X : CX E p s m args c meth cX3_nobodyGains 5 (some .boolean) RX3) (hk2 : ∀ {x1 : Int32} {H : Heap} {locs : List Loc} {ls : Array Slot}, k2 x1 = some r → Rl E (sh_ b) (nn b) s.heap M H locs → lv_has ls 5 [(0, .ref (eB E + 36)), (1, .int x1)] → W p l e (rm 2 0 0) s m args below meth c H locs 0 0 (MQ below (qq E (some (.int r)) (sh_ b) (nn b) M) args s 0 0 (fr E)) (F0 m 2 ls [])) (hk55 : ∀ {H : Heap} {locs : List Loc} {ls : Array Slot}, k55 = some r → Rl E (sh_ b) (nn b) s.heap M H locs → lv_has ls 5 [] → W p l e (rm 2 0 0) s m args below meth c H locs 0 0 (MQ below (qq E (some (.int r)) (sh_ b) (nn b) M) args s 0 0 (fr E)) (F0 m 55 ls [])) (hk63 : ∀ {H : Heap} {locs : List Loc} {ls : Array Slot}, k63 = some r → Rl E (sh_ b) (nn b) s.heap M H locs → lv_has ls 5 [] → W p l e (rm 2 0 0) s m args below meth c H locs 0 0 (MQ below (qq E (some (.int r)) (sh_ b) (nn b) M) args s 0 0 (fr E)) (F0 m 63 ls [])) : ∀ {x1 : Int32} {y2 : Int64} {H : Heap} {locs : List Loc} {ls : Array Slot}, fX3_nobodyGains_49 M k2 k55 k63 x1 y2 = some r → Rl E (sh_ b) (nn b) s.heap M H locs → lv_has ls 5 [(0, .ref (eB E + 36)), (1, .int x1), (2, .long y2)] → W p l e (rm 2 0 0) s m args below meth c H locs 0 0 (MQ below (qq E (some (.int r)) (sh_ b) (nn b) M) args s 0 0 (fr E)) (F0 m 49 ls []) := by
  obtain ⟨hx, hb, hr, hml, hown, hts, hK, hN, hO, hlk, hbs⟩ := id X
  intro x1 y2 H locs ls hf hR hl
  unfold fX3_nobodyGains_49 at hf
  refine lv_lload_n hx hb dX3_nobodyGains_49 rfl (lv_at hl 2 rfl) ?_
  refine lv_lconst (v := 0) hx hb dX3_nobodyGains_50 (by decide) ?_
  refine W.lcmp hx hb dX3_nobodyGains_51 ?_
  refine lv_if_le (tgt := 57) hx hb dX3_nobodyGains_52 (by decide) (fun q52 => ?_) (fun q52 => ?_)
  · have hf := (br_if hf).1 q52
    obtain ⟨v57, e57⟩ : ∃ y : Int32, y = (x1 + (1 : Int32)) := ⟨_, rfl⟩
    have hf := nx_at e57 hf
    refine lv_iinc (v := v57) (lv' := [(1, .int v57), (0, .ref (eB E + 36)), (2, .long y2)]) hx hb dX3_nobodyGains_57 hl (k := 1) rfl (by rw [e57]; rfl) (by decide) rfl (fun ls hl => ?_)
    refine lv_goto (tgt := 2) hx hb dX3_nobodyGains_60 (by decide) ?_
    exact hk2 hf hR (lv_sub hl [1, 0] rfl)
  · have hf := (br_if hf).2 q52
    exact hk55 hf hR (lv_sub hl [] rfl)
set_option maxHeartbeats 4000000 in
set_option maxRecDepth 100000 in
theorem wX3_nobodyGains_2 {r : Int32} {M : Mem} {k55 : Option Int32} {k63 : Option Int32} (X : CX E p s m args c meth cX3_nobodyGains 5 (some .boolean) RX3) (hk55 : ∀ {H : Heap} {locs : List Loc} {ls : Array Slot}, k55 = some r → Rl E (sh_ b) (nn b) s.heap M H locs → lv_has ls 5 [] → W p l e (rm 2 0 0) s m args below meth c H locs 0 0 (MQ below (qq E (some (.int r)) (sh_ b) (nn b) M) args s 0 0 (fr E)) (F0 m 55 ls [])) (hk63 : ∀ {H : Heap} {locs : List Loc} {ls : Array Slot}, k63 = some r → Rl E (sh_ b) (nn b) s.heap M H locs → lv_has ls 5 [] → W p l e (rm 2 0 0) s m args below meth c H locs 0 0 (MQ below (qq E (some (.int r)) (sh_ b) (nn b) M) args s 0 0 (fr E)) (F0 m 63 ls [])) : ∀ (n : Nat) {x1 : Int32} {H : Heap} {locs : List Loc} {ls : Array Slot}, fX3_nobodyGains_2 M k55 k63 n x1 = some r → Rl E (sh_ b) (nn b) s.heap M H locs → lv_has ls 5 [(0, .ref (eB E + 36)), (1, .int x1)] → W p l e (rm 2 0 0) s m args below meth c H locs 0 0 (MQ below (qq E (some (.int r)) (sh_ b) (nn b) M) args s 0 0 (fr E)) (F0 m 2 ls []) := by
  obtain ⟨hx, hb, hr, hml, hown, hts, hK, hN, hO, hlk, hbs⟩ := id X
  intro n
  induction n with
  | zero =>
    intro x1 H locs ls hf hR hl
    exact absurd (show none = some _ from hf) (fun h => by cases h)
  | succ n ih =>
    intro x1 H locs ls hf hR hl
    rw [fX3_nobodyGains_2] at hf
    refine lv_iload_n hx hb dX3_nobodyGains_2 rfl (lv_at hl 1 rfl) ?_
    refine lv_aload_n hx hb dX3_nobodyGains_3 rfl (lv_at hl 0 rfl) ?_
    refine x_get hx hb hown hts hK hR kX3 (z_36 b) (j := 5) (by decide) fl_X3_55 (v := .int (M.1 36 5)) rfl dX3_nobodyGains_4 ?_
    refine lv_icmp_ge (tgt := 63) hx hb dX3_nobodyGains_7 (by decide) (fun q7 => ?_) (fun q7 => ?_)
    · have hf := (br_if hf).1 q7
      exact hk63 hf hR (lv_sub hl [] rfl)
    · have hf := (br_if hf).2 q7
      refine lv_lconst (v := 0) hx hb dX3_nobodyGains_10 (by decide) ?_
      refine lv_lstore_n (lv' := [(2, .long (0 : Int64)), (0, .ref (eB E + 36)), (1, .int x1)]) hx hb dX3_nobodyGains_11 rfl hl (by decide) rfl (fun ls hl => ?_)
      refine lv_iconst (v := 0) hx hb dX3_nobodyGains_12 (by decide) ?_
      refine lv_istore (lv' := [(4, .int (0 : Int32)), (2, .long (0 : Int64)), (0, .ref (eB E + 36)), (1, .int x1)]) hx hb dX3_nobodyGains_13 hl (by decide) rfl (fun ls hl => ?_)
      exact wX3_nobodyGains_15 X (fun hf hR hl => wX3_nobodyGains_49 X (fun hf hR hl => ih hf hR hl) (fun hf hR hl => hk55 hf hR hl) (fun hf hR hl => hk63 hf hR hl) hf hR hl) FU hf hR (lv_sub hl [2, 3, 1, 0] rfl)
set_option maxHeartbeats 4000000 in
set_option maxRecDepth 100000 in
theorem wX3_nobodyGains_55 {r : Int32} {M : Mem} (X : CX E p s m args c meth cX3_nobodyGains 5 (some .boolean) RX3) : ∀ {H : Heap} {locs : List Loc} {ls : Array Slot}, fX3_nobodyGains_55 M = some r → Rl E (sh_ b) (nn b) s.heap M H locs → lv_has ls 5 [] → W p l e (rm 2 0 0) s m args below meth c H locs 0 0 (MQ below (qq E (some (.int r)) (sh_ b) (nn b) M) args s 0 0 (fr E)) (F0 m 55 ls []) := by
  obtain ⟨hx, hb, hr, hml, hown, hts, hK, hN, hO, hlk, hbs⟩ := id X
  intro H locs ls hf hR hl
  unfold fX3_nobodyGains_55 at hf
  refine lv_iconst (v := 0) hx hb dX3_nobodyGains_55 (by decide) ?_
  cases hf
  exact x_zret hx hb hr hlk hR (by decide) dX3_nobodyGains_56
set_option maxHeartbeats 4000000 in
set_option maxRecDepth 100000 in
theorem wX3_nobodyGains_63 {r : Int32} {M : Mem} (X : CX E p s m args c meth cX3_nobodyGains 5 (some .boolean) RX3) : ∀ {H : Heap} {locs : List Loc} {ls : Array Slot}, fX3_nobodyGains_63 M = some r → Rl E (sh_ b) (nn b) s.heap M H locs → lv_has ls 5 [] → W p l e (rm 2 0 0) s m args below meth c H locs 0 0 (MQ below (qq E (some (.int r)) (sh_ b) (nn b) M) args s 0 0 (fr E)) (F0 m 63 ls []) := by
  obtain ⟨hx, hb, hr, hml, hown, hts, hK, hN, hO, hlk, hbs⟩ := id X
  intro H locs ls hf hR hl
  unfold fX3_nobodyGains_63 at hf
  refine lv_iconst (v := 1) hx hb dX3_nobodyGains_63 (by decide) ?_
  cases hf
  exact x_zret hx hb hr hlk hR (by decide) dX3_nobodyGains_64
set_option maxHeartbeats 4000000 in
set_option maxRecDepth 100000 in
theorem wX3_nobodyGains_0 {r : Int32} {M : Mem} (X : CX E p s m args c meth cX3_nobodyGains 5 (some .boolean) RX3) : ∀ {H : Heap} {locs : List Loc} {ls : Array Slot}, fX3_nobodyGains M = some r → Rl E (sh_ b) (nn b) s.heap M H locs → lv_has ls 5 [(0, .ref (eB E + 36))] → W p l e (rm 2 0 0) s m args below meth c H locs 0 0 (MQ below (qq E (some (.int r)) (sh_ b) (nn b) M) args s 0 0 (fr E)) (F0 m 0 ls []) := by
  obtain ⟨hx, hb, hr, hml, hown, hts, hK, hN, hO, hlk, hbs⟩ := id X
  intro H locs ls hf hR hl
  unfold fX3_nobodyGains at hf
  refine lv_iconst (v := 0) hx hb dX3_nobodyGains_0 (by decide) ?_
  refine lv_istore_n (lv' := [(1, .int (0 : Int32)), (0, .ref (eB E + 36))]) hx hb dX3_nobodyGains_1 rfl hl (by decide) rfl (fun ls hl => ?_)
  exact wX3_nobodyGains_2 X (fun hf hR hl => wX3_nobodyGains_55 X hf hR hl) (fun hf hR hl => wX3_nobodyGains_63 X hf hR hl) FU hf hR (lv_sub hl [1, 0] rfl)
theorem ctX3_nobodyGains {l : Launch} {E : Ge} {b : Bool} {M : Mem} {r : Int32} (h : fX3_nobodyGains M = some r) : CT l E yX3_nobodyGains cX3_nobodyGains 5 (some .boolean) 2 0 0 [.ref (eB E + 36)] (some (.int r)) (sh_ b) (nn b) M (sh_ b) (nn b) M := by
  refine met_of (by decide) (Nat.le_of_ble_eq_true rfl) ?_
  intro p e s m args below meth c X _ hR ls hl
  exact wX3_nobodyGains_0 X h hR hl
def fX3_reduce_4 (k29 : Int64 → Mem → Option Mem) : Nat → Int64 → Int32 → Mem → Option Mem
  | 0, _, _, _ => none
  | n + 1, y1, x3, M => (if (M.1 36 5) ≤ x3 then k29 y1 M else (if inb x3 8 = true then (fX10_commonPart M y1 (M.2 39 (ix x3))).bind (fun q19 => nx (x3 + (1 : Int32)) (fun v23 => fX3_reduce_4 k29 n q19 v23 M)) else none))
def fX3_reduce_60 (k36 : Int64 → Int32 → Mem → Option Mem) (k81 : Mem → Option Mem) (y1 : Int64) (x3 : Int32) (M : Mem) : Option Mem := (if inb x3 8 = true then nx (sL M 36 4 ((M.2 36 4) + (M.2 39 (ix x3)))) (fun M72 => nx (x3 + (1 : Int32)) (fun v75 => k36 y1 v75 M72)) else none)
def fX3_reduce_36 (k81 : Mem → Option Mem) : Nat → Int64 → Int32 → Mem → Option Mem
  | 0, _, _, _ => none
  | n + 1, y1, x3, M => (if (M.1 36 5) ≤ x3 then k81 M else (if (lg_cmp y1 (1 : Int64)) ≤ 0 then fX3_reduce_60 (fX3_reduce_36 k81 n) k81 y1 x3 M else (if inb x3 8 = true then (if ¬ y1 = 0 then (if inb x3 8 = true then nx (sL M 39 (ix x3) ((M.2 39 (ix x3)) / y1)) (fun M59 => fX3_reduce_60 (fX3_reduce_36 k81 n) k81 y1 x3 M59) else none) else none) else none)))
def fX3_reduce_81 (M : Mem) : Option Mem := some M
def fX3_reduce_29 (y1 : Int64) (M : Mem) : Option Mem := nx (sL M 36 4 (0 : Int64)) (fun M31 => fX3_reduce_36 fX3_reduce_81 FU y1 (0 : Int32) M31)
def fX3_reduce (M : Mem) : Option Mem := fX3_reduce_4 fX3_reduce_29 FU (0 : Int64) (0 : Int32) M
set_option maxHeartbeats 4000000 in
set_option maxRecDepth 100000 in
theorem wX3_reduce_4 {M1 : Mem} {k29 : Int64 → Mem → Option Mem} (X : CX E p s m args c meth cX3_reduce 4 none RX3) (hk29 : ∀ {y1 : Int64} {M : Mem} {H : Heap} {locs : List Loc} {ls : Array Slot}, k29 y1 M = some M1 → Rl E (sh_ b) (nn b) s.heap M H locs → lv_has ls 4 [(0, .ref (eB E + 36)), (1, .long y1)] → W p l e (rm 3 0 0) s m args below meth c H locs 0 0 (MQ below (qq E none (sh_ b) (nn b) M1) args s 0 0 (fr E)) (F0 m 29 ls [])) : ∀ (n : Nat) {y1 : Int64} {x3 : Int32} {M : Mem} {H : Heap} {locs : List Loc} {ls : Array Slot}, fX3_reduce_4 k29 n y1 x3 M = some M1 → Rl E (sh_ b) (nn b) s.heap M H locs → lv_has ls 4 [(0, .ref (eB E + 36)), (1, .long y1), (3, .int x3)] → W p l e (rm 3 0 0) s m args below meth c H locs 0 0 (MQ below (qq E none (sh_ b) (nn b) M1) args s 0 0 (fr E)) (F0 m 4 ls []) := by
  obtain ⟨hx, hb, hr, hml, hown, hts, hK, hN, hO, hlk, hbs⟩ := id X
  intro n
  induction n with
  | zero =>
    intro y1 x3 M H locs ls hf hR hl
    exact absurd (show none = some _ from hf) (fun h => by cases h)
  | succ n ih =>
    intro y1 x3 M H locs ls hf hR hl
    rw [fX3_reduce_4] at hf
    refine lv_iload_n hx hb dX3_reduce_4 rfl (lv_at hl 2 rfl) ?_
    refine lv_aload_n hx hb dX3_reduce_5 rfl (lv_at hl 0 rfl) ?_
    refine x_get hx hb hown hts hK hR kX3 (z_36 b) (j := 5) (by decide) fl_X3_55 (v := .int (M.1 36 5)) rfl dX3_reduce_6 ?_
    refine lv_icmp_ge (tgt := 29) hx hb dX3_reduce_9 (by decide) (fun q9 => ?_) (fun q9 => ?_)
    · have hf := (br_if hf).1 q9
      exact hk29 hf hR (lv_sub hl [0, 1] rfl)
    · have hf := (br_if hf).2 q9
      refine lv_lload_n hx hb dX3_reduce_12 rfl (lv_at hl 1 rfl) ?_
      refine lv_aload_n hx hb dX3_reduce_13 rfl (lv_at hl 0 rfl) ?_
      refine x_get hx hb hown hts hK hR kX3 (z_36 b) (j := 3) (by decide) fl_X3_19 (v := .ref (eB E + 39)) rfl dX3_reduce_14 ?_
      refine lv_iload_n hx hb dX3_reduce_17 rfl (lv_at hl 2 rfl) ?_
      obtain ⟨g18, hf⟩ := br_g hf
      refine x_lald hx hb hK hR (z_39 b) g18 dX3_reduce_18 ?_
      obtain ⟨q19, c19, hf⟩ := br_b hf
      refine x_callSN (As := [.long y1, .long (M.2 39 (ix x3))]) (rest := []) (st1 := [.long q19]) X hR (ctX10_commonPart c19) (List.mem_of_getElem? (i := 4) rfl) st_X10_commonPart in_X10 co_X10_commonPart yo_X10_commonPart (rm_ok (by decide) (by decide)) rfl hl.1 rfl rfl (Nat.le_of_ble_eq_true rfl) dX3_reduce_19 ⟨Nat.zero_le _, Nat.zero_le _⟩ (fun H locs hR => ?_)
      refine lv_lstore_n (lv' := [(1, .long q19), (0, .ref (eB E + 36)), (3, .int x3)]) hx hb dX3_reduce_22 rfl hl (by decide) rfl (fun ls hl => ?_)
      obtain ⟨v23, e23⟩ : ∃ y : Int32, y = (x3 + (1 : Int32)) := ⟨_, rfl⟩
      have hf := nx_at e23 hf
      refine lv_iinc (v := v23) (lv' := [(3, .int v23), (1, .long q19), (0, .ref (eB E + 36))]) hx hb dX3_reduce_23 hl (k := 2) rfl (by rw [e23]; rfl) (by decide) rfl (fun ls hl => ?_)
      refine lv_goto (tgt := 4) hx hb dX3_reduce_26 (by decide) ?_
      exact ih hf hR (lv_sub hl [2, 1, 0] rfl)
set_option maxHeartbeats 4000000 in
set_option maxRecDepth 100000 in
theorem wX3_reduce_60 {M1 : Mem} {k36 : Int64 → Int32 → Mem → Option Mem} {k81 : Mem → Option Mem} (X : CX E p s m args c meth cX3_reduce 4 none RX3) (hk36 : ∀ {y1 : Int64} {x3 : Int32} {M : Mem} {H : Heap} {locs : List Loc} {ls : Array Slot}, k36 y1 x3 M = some M1 → Rl E (sh_ b) (nn b) s.heap M H locs → lv_has ls 4 [(0, .ref (eB E + 36)), (1, .long y1), (3, .int x3)] → W p l e (rm 3 0 0) s m args below meth c H locs 0 0 (MQ below (qq E none (sh_ b) (nn b) M1) args s 0 0 (fr E)) (F0 m 36 ls [])) (hk81 : ∀ {M : Mem} {H : Heap} {locs : List Loc} {ls : Array Slot}, k81 M = some M1 → Rl E (sh_ b) (nn b) s.heap M H locs → lv_has ls 4 [] → W p l e (rm 3 0 0) s m args below meth c H locs 0 0 (MQ below (qq E none (sh_ b) (nn b) M1) args s 0 0 (fr E)) (F0 m 81 ls [])) : ∀ {y1 : Int64} {x3 : Int32} {M : Mem} {H : Heap} {locs : List Loc} {ls : Array Slot}, fX3_reduce_60 k36 k81 y1 x3 M = some M1 → Rl E (sh_ b) (nn b) s.heap M H locs → lv_has ls 4 [(0, .ref (eB E + 36)), (1, .long y1), (3, .int x3)] → W p l e (rm 3 0 0) s m args below meth c H locs 0 0 (MQ below (qq E none (sh_ b) (nn b) M1) args s 0 0 (fr E)) (F0 m 60 ls []) := by
  obtain ⟨hx, hb, hr, hml, hown, hts, hK, hN, hO, hlk, hbs⟩ := id X
  intro y1 x3 M H locs ls hf hR hl
  unfold fX3_reduce_60 at hf
  refine lv_aload_n hx hb dX3_reduce_60 rfl (lv_at hl 0 rfl) ?_
  refine lv_dup hx hb dX3_reduce_61 rfl ?_
  refine x_get hx hb hown hts hK hR kX3 (z_36 b) (j := 4) (by decide) fl_X3_113 (v := .long (M.2 36 4)) rfl dX3_reduce_62 ?_
  refine lv_aload_n hx hb dX3_reduce_65 rfl (lv_at hl 0 rfl) ?_
  refine x_get hx hb hown hts hK hR kX3 (z_36 b) (j := 3) (by decide) fl_X3_19 (v := .ref (eB E + 39)) rfl dX3_reduce_66 ?_
  refine lv_iload_n hx hb dX3_reduce_69 rfl (lv_at hl 2 rfl) ?_
  obtain ⟨g70, hf⟩ := br_g hf
  refine x_lald hx hb hK hR (z_39 b) g70 dX3_reduce_70 ?_
  refine lv_ladd hx hb dX3_reduce_71 ?_
  refine x_putl hx hb hown hts hK hR kX3 (z_36 b) (j := 4) (by decide) fl_X3_113 rfl rfl rfl rfl dX3_reduce_72 (fun H locs hR => ?_)
  obtain ⟨M72, e72⟩ : ∃ y : Mem, y = (sL M 36 4 ((M.2 36 4) + (M.2 39 (ix x3)))) := ⟨_, rfl⟩
  have hf := nx_at e72 hf
  have hR : Rl E (sh_ b) (nn b) s.heap M72 H locs := by rw [e72]; exact hR
  obtain ⟨v75, e75⟩ : ∃ y : Int32, y = (x3 + (1 : Int32)) := ⟨_, rfl⟩
  have hf := nx_at e75 hf
  refine lv_iinc (v := v75) (lv' := [(3, .int v75), (0, .ref (eB E + 36)), (1, .long y1)]) hx hb dX3_reduce_75 hl (k := 2) rfl (by rw [e75]; rfl) (by decide) rfl (fun ls hl => ?_)
  refine lv_goto (tgt := 36) hx hb dX3_reduce_78 (by decide) ?_
  exact hk36 hf hR (lv_sub hl [1, 2, 0] rfl)
set_option maxHeartbeats 4000000 in
set_option maxRecDepth 100000 in
theorem wX3_reduce_36 {M1 : Mem} {k81 : Mem → Option Mem} (X : CX E p s m args c meth cX3_reduce 4 none RX3) (hk81 : ∀ {M : Mem} {H : Heap} {locs : List Loc} {ls : Array Slot}, k81 M = some M1 → Rl E (sh_ b) (nn b) s.heap M H locs → lv_has ls 4 [] → W p l e (rm 3 0 0) s m args below meth c H locs 0 0 (MQ below (qq E none (sh_ b) (nn b) M1) args s 0 0 (fr E)) (F0 m 81 ls [])) : ∀ (n : Nat) {y1 : Int64} {x3 : Int32} {M : Mem} {H : Heap} {locs : List Loc} {ls : Array Slot}, fX3_reduce_36 k81 n y1 x3 M = some M1 → Rl E (sh_ b) (nn b) s.heap M H locs → lv_has ls 4 [(0, .ref (eB E + 36)), (1, .long y1), (3, .int x3)] → W p l e (rm 3 0 0) s m args below meth c H locs 0 0 (MQ below (qq E none (sh_ b) (nn b) M1) args s 0 0 (fr E)) (F0 m 36 ls []) := by
  obtain ⟨hx, hb, hr, hml, hown, hts, hK, hN, hO, hlk, hbs⟩ := id X
  intro n
  induction n with
  | zero =>
    intro y1 x3 M H locs ls hf hR hl
    exact absurd (show none = some _ from hf) (fun h => by cases h)
  | succ n ih =>
    intro y1 x3 M H locs ls hf hR hl
    rw [fX3_reduce_36] at hf
    refine lv_iload_n hx hb dX3_reduce_36 rfl (lv_at hl 2 rfl) ?_
    refine lv_aload_n hx hb dX3_reduce_37 rfl (lv_at hl 0 rfl) ?_
    refine x_get hx hb hown hts hK hR kX3 (z_36 b) (j := 5) (by decide) fl_X3_55 (v := .int (M.1 36 5)) rfl dX3_reduce_38 ?_
    refine lv_icmp_ge (tgt := 81) hx hb dX3_reduce_41 (by decide) (fun q41 => ?_) (fun q41 => ?_)
    · have hf := (br_if hf).1 q41
      exact hk81 hf hR (lv_sub hl [] rfl)
    · have hf := (br_if hf).2 q41
      refine lv_lload_n hx hb dX3_reduce_44 rfl (lv_at hl 1 rfl) ?_
      refine lv_lconst (v := 1) hx hb dX3_reduce_45 (by decide) ?_
      refine W.lcmp hx hb dX3_reduce_46 ?_
      refine lv_if_le (tgt := 60) hx hb dX3_reduce_47 (by decide) (fun q47 => ?_) (fun q47 => ?_)
      · have hf := (br_if hf).1 q47
        exact wX3_reduce_60 X (fun hf hR hl => ih hf hR hl) (fun hf hR hl => hk81 hf hR hl) hf hR hl
      · have hf := (br_if hf).2 q47
        refine lv_aload_n hx hb dX3_reduce_50 rfl (lv_at hl 0 rfl) ?_
        refine x_get hx hb hown hts hK hR kX3 (z_36 b) (j := 3) (by decide) fl_X3_19 (v := .ref (eB E + 39)) rfl dX3_reduce_51 ?_
        refine lv_iload_n hx hb dX3_reduce_54 rfl (lv_at hl 2 rfl) ?_
        refine lv_dup2_11 hx hb dX3_reduce_55 rfl rfl ?_
        obtain ⟨g56, hf⟩ := br_g hf
        refine x_lald hx hb hK hR (z_39 b) g56 dX3_reduce_56 ?_
        refine lv_lload_n hx hb dX3_reduce_57 rfl (lv_at hl 1 rfl) ?_
        obtain ⟨g58, hf⟩ := br_g hf
        refine lv_ldiv hx hb dX3_reduce_58 g58 ?_
        obtain ⟨g59, hf⟩ := br_g hf
        refine x_last hx hb hK hR (z_39 b) g59 dX3_reduce_59 (fun H locs hR => ?_)
        obtain ⟨M59, e59⟩ : ∃ y : Mem, y = (sL M 39 (ix x3) ((M.2 39 (ix x3)) / y1)) := ⟨_, rfl⟩
        have hf := nx_at e59 hf
        have hR : Rl E (sh_ b) (nn b) s.heap M59 H locs := by rw [e59]; exact hR
        exact wX3_reduce_60 X (fun hf hR hl => ih hf hR hl) (fun hf hR hl => hk81 hf hR hl) hf hR hl
set_option maxHeartbeats 4000000 in
set_option maxRecDepth 100000 in
theorem wX3_reduce_81 {M1 : Mem} (X : CX E p s m args c meth cX3_reduce 4 none RX3) : ∀ {M : Mem} {H : Heap} {locs : List Loc} {ls : Array Slot}, fX3_reduce_81 M = some M1 → Rl E (sh_ b) (nn b) s.heap M H locs → lv_has ls 4 [] → W p l e (rm 3 0 0) s m args below meth c H locs 0 0 (MQ below (qq E none (sh_ b) (nn b) M1) args s 0 0 (fr E)) (F0 m 81 ls []) := by
  obtain ⟨hx, hb, hr, hml, hown, hts, hK, hN, hO, hlk, hbs⟩ := id X
  intro M H locs ls hf hR hl
  unfold fX3_reduce_81 at hf
  cases hf
  exact x_vret hx hb hr hlk hR dX3_reduce_81
set_option maxHeartbeats 4000000 in
set_option maxRecDepth 100000 in
theorem wX3_reduce_29 {M1 : Mem} (X : CX E p s m args c meth cX3_reduce 4 none RX3) : ∀ {y1 : Int64} {M : Mem} {H : Heap} {locs : List Loc} {ls : Array Slot}, fX3_reduce_29 y1 M = some M1 → Rl E (sh_ b) (nn b) s.heap M H locs → lv_has ls 4 [(0, .ref (eB E + 36)), (1, .long y1)] → W p l e (rm 3 0 0) s m args below meth c H locs 0 0 (MQ below (qq E none (sh_ b) (nn b) M1) args s 0 0 (fr E)) (F0 m 29 ls []) := by
  obtain ⟨hx, hb, hr, hml, hown, hts, hK, hN, hO, hlk, hbs⟩ := id X
  intro y1 M H locs ls hf hR hl
  unfold fX3_reduce_29 at hf
  refine lv_aload_n hx hb dX3_reduce_29 rfl (lv_at hl 0 rfl) ?_
  refine lv_lconst (v := 0) hx hb dX3_reduce_30 (by decide) ?_
  refine x_putl hx hb hown hts hK hR kX3 (z_36 b) (j := 4) (by decide) fl_X3_113 rfl rfl rfl rfl dX3_reduce_31 (fun H locs hR => ?_)
  obtain ⟨M31, e31⟩ : ∃ y : Mem, y = (sL M 36 4 (0 : Int64)) := ⟨_, rfl⟩
  have hf := nx_at e31 hf
  have hR : Rl E (sh_ b) (nn b) s.heap M31 H locs := by rw [e31]; exact hR
  refine lv_iconst (v := 0) hx hb dX3_reduce_34 (by decide) ?_
  refine lv_istore_n (lv' := [(3, .int (0 : Int32)), (0, .ref (eB E + 36)), (1, .long y1)]) hx hb dX3_reduce_35 rfl hl (by decide) rfl (fun ls hl => ?_)
  exact wX3_reduce_36 X (fun hf hR hl => wX3_reduce_81 X hf hR hl) FU hf hR (lv_sub hl [1, 2, 0] rfl)
set_option maxHeartbeats 4000000 in
set_option maxRecDepth 100000 in
theorem wX3_reduce_0 {M1 : Mem} (X : CX E p s m args c meth cX3_reduce 4 none RX3) : ∀ {M : Mem} {H : Heap} {locs : List Loc} {ls : Array Slot}, fX3_reduce M = some M1 → Rl E (sh_ b) (nn b) s.heap M H locs → lv_has ls 4 [(0, .ref (eB E + 36))] → W p l e (rm 3 0 0) s m args below meth c H locs 0 0 (MQ below (qq E none (sh_ b) (nn b) M1) args s 0 0 (fr E)) (F0 m 0 ls []) := by
  obtain ⟨hx, hb, hr, hml, hown, hts, hK, hN, hO, hlk, hbs⟩ := id X
  intro M H locs ls hf hR hl
  unfold fX3_reduce at hf
  refine lv_lconst (v := 0) hx hb dX3_reduce_0 (by decide) ?_
  refine lv_lstore_n (lv' := [(1, .long (0 : Int64)), (0, .ref (eB E + 36))]) hx hb dX3_reduce_1 rfl hl (by decide) rfl (fun ls hl => ?_)
  refine lv_iconst (v := 0) hx hb dX3_reduce_2 (by decide) ?_
  refine lv_istore_n (lv' := [(3, .int (0 : Int32)), (1, .long (0 : Int64)), (0, .ref (eB E + 36))]) hx hb dX3_reduce_3 rfl hl (by decide) rfl (fun ls hl => ?_)
  exact wX3_reduce_4 X (fun hf hR hl => wX3_reduce_29 X hf hR hl) FU hf hR (lv_sub hl [2, 1, 0] rfl)
theorem ctX3_reduce {l : Launch} {E : Ge} {b : Bool} {M : Mem} {M1 : Mem} (h : fX3_reduce M = some M1) : CT l E yX3_reduce cX3_reduce 4 none 3 0 0 [.ref (eB E + 36)] none (sh_ b) (nn b) M (sh_ b) (nn b) M1 := by
  refine met_of (by decide) (Nat.le_of_ble_eq_true rfl) ?_
  intro p e s m args below meth c X _ hR ls hl
  exact wX3_reduce_0 X h hR hl
def fX3_findLots_60 (k17 : Int32 → Int32 → Mem → Option Mem) (k50 : Mem → Option Mem) (k66 : Int32 → Mem → Option Mem) (x1 : Int32) (x2 : Int32) (M : Mem) : Option Mem := nx (x2 + (1 : Int32)) (fun v60 => k17 x1 v60 M)
def fX3_findLots_17 (k50 : Mem → Option Mem) (k66 : Int32 → Mem → Option Mem) : Nat → Int32 → Int32 → Mem → Option Mem
  | 0, _, _, _ => none
  | n + 1, x1, x2, M => (if ((1 : Int32) <<< ((M.1 36 5) &&& 31)) ≤ x2 then k66 x1 M else (fJ6_bitCount_0f7a4 M x2).bind (fun q28 => (if q28 = x1 then (fX3_shareAmong x2 M).bind (fun q37 => (if q37.1 = 0 then fX3_findLots_60 (fX3_findLots_17 k50 k66 n) k50 k66 x1 x2 (q37.2) else (fX3_nobodyGains q37.2).bind (fun q44 => (if q44 = 0 then fX3_findLots_60 (fX3_findLots_17 k50 k66 n) k50 k66 x1 x2 (q37.2) else k50 (q37.2))))) else fX3_findLots_60 (fX3_findLots_17 k50 k66 n) k50 k66 x1 x2 M)))
def fX3_findLots_66 (k7 : Int32 → Mem → Option Mem) (k50 : Mem → Option Mem) (k72 : Mem → Option Mem) (x1 : Int32) (M : Mem) : Option Mem := nx (x1 + (2 : Int32)) (fun v66 => k7 v66 M)
def fX3_findLots_7 (k50 : Mem → Option Mem) (k72 : Mem → Option Mem) : Nat → Int32 → Mem → Option Mem
  | 0, _, _ => none
  | n + 1, x1, M => (if (M.1 36 5) < x1 then k72 M else fX3_findLots_17 k50 (fX3_findLots_66 (fX3_findLots_7 k50 k72 n) k50 k72) FU x1 (1 : Int32) M)
def fX3_findLots_50 (M : Mem) : Option Mem := nx (sI M 36 6 (1 : Int32)) (fun M52 => (fX3_reduce M52).bind (fun q56 => some q56))
def fX3_findLots_72 (M : Mem) : Option Mem := some M
def fX3_findLots (M : Mem) : Option Mem := nx (sI M 36 6 (0 : Int32)) (fun M2 => fX3_findLots_7 fX3_findLots_50 fX3_findLots_72 FU (1 : Int32) M2)
set_option maxHeartbeats 4000000 in
set_option maxRecDepth 100000 in
theorem wX3_findLots_60 {M1 : Mem} {k17 : Int32 → Int32 → Mem → Option Mem} {k50 : Mem → Option Mem} {k66 : Int32 → Mem → Option Mem} (X : CX E p s m args c meth cX3_findLots 3 none RX3) (hk17 : ∀ {x1 : Int32} {x2 : Int32} {M : Mem} {H : Heap} {locs : List Loc} {ls : Array Slot}, k17 x1 x2 M = some M1 → Rl E (sh_ b) (nn b) s.heap M H locs → lv_has ls 3 [(0, .ref (eB E + 36)), (1, .int x1), (2, .int x2)] → W p l e (rm 4 0 0) s m args below meth c H locs 0 0 (MQ below (qq E none (sh_ b) (nn b) M1) args s 0 0 (fr E)) (F0 m 17 ls [])) (hk50 : ∀ {M : Mem} {H : Heap} {locs : List Loc} {ls : Array Slot}, k50 M = some M1 → Rl E (sh_ b) (nn b) s.heap M H locs → lv_has ls 3 [(0, .ref (eB E + 36))] → W p l e (rm 4 0 0) s m args below meth c H locs 0 0 (MQ below (qq E none (sh_ b) (nn b) M1) args s 0 0 (fr E)) (F0 m 50 ls [])) (hk66 : ∀ {x1 : Int32} {M : Mem} {H : Heap} {locs : List Loc} {ls : Array Slot}, k66 x1 M = some M1 → Rl E (sh_ b) (nn b) s.heap M H locs → lv_has ls 3 [(0, .ref (eB E + 36)), (1, .int x1)] → W p l e (rm 4 0 0) s m args below meth c H locs 0 0 (MQ below (qq E none (sh_ b) (nn b) M1) args s 0 0 (fr E)) (F0 m 66 ls [])) : ∀ {x1 : Int32} {x2 : Int32} {M : Mem} {H : Heap} {locs : List Loc} {ls : Array Slot}, fX3_findLots_60 k17 k50 k66 x1 x2 M = some M1 → Rl E (sh_ b) (nn b) s.heap M H locs → lv_has ls 3 [(0, .ref (eB E + 36)), (1, .int x1), (2, .int x2)] → W p l e (rm 4 0 0) s m args below meth c H locs 0 0 (MQ below (qq E none (sh_ b) (nn b) M1) args s 0 0 (fr E)) (F0 m 60 ls []) := by
  obtain ⟨hx, hb, hr, hml, hown, hts, hK, hN, hO, hlk, hbs⟩ := id X
  intro x1 x2 M H locs ls hf hR hl
  unfold fX3_findLots_60 at hf
  obtain ⟨v60, e60⟩ : ∃ y : Int32, y = (x2 + (1 : Int32)) := ⟨_, rfl⟩
  have hf := nx_at e60 hf
  refine lv_iinc (v := v60) (lv' := [(2, .int v60), (0, .ref (eB E + 36)), (1, .int x1)]) hx hb dX3_findLots_60 hl (k := 2) rfl (by rw [e60]; rfl) (by decide) rfl (fun ls hl => ?_)
  refine lv_goto (tgt := 17) hx hb dX3_findLots_63 (by decide) ?_
  exact hk17 hf hR (lv_sub hl [1, 2, 0] rfl)
set_option maxHeartbeats 4000000 in
set_option maxRecDepth 100000 in
theorem wX3_findLots_17 {M1 : Mem} {k50 : Mem → Option Mem} {k66 : Int32 → Mem → Option Mem} (X : CX E p s m args c meth cX3_findLots 3 none RX3) (hk50 : ∀ {M : Mem} {H : Heap} {locs : List Loc} {ls : Array Slot}, k50 M = some M1 → Rl E (sh_ b) (nn b) s.heap M H locs → lv_has ls 3 [(0, .ref (eB E + 36))] → W p l e (rm 4 0 0) s m args below meth c H locs 0 0 (MQ below (qq E none (sh_ b) (nn b) M1) args s 0 0 (fr E)) (F0 m 50 ls [])) (hk66 : ∀ {x1 : Int32} {M : Mem} {H : Heap} {locs : List Loc} {ls : Array Slot}, k66 x1 M = some M1 → Rl E (sh_ b) (nn b) s.heap M H locs → lv_has ls 3 [(0, .ref (eB E + 36)), (1, .int x1)] → W p l e (rm 4 0 0) s m args below meth c H locs 0 0 (MQ below (qq E none (sh_ b) (nn b) M1) args s 0 0 (fr E)) (F0 m 66 ls [])) : ∀ (n : Nat) {x1 : Int32} {x2 : Int32} {M : Mem} {H : Heap} {locs : List Loc} {ls : Array Slot}, fX3_findLots_17 k50 k66 n x1 x2 M = some M1 → Rl E (sh_ b) (nn b) s.heap M H locs → lv_has ls 3 [(0, .ref (eB E + 36)), (1, .int x1), (2, .int x2)] → W p l e (rm 4 0 0) s m args below meth c H locs 0 0 (MQ below (qq E none (sh_ b) (nn b) M1) args s 0 0 (fr E)) (F0 m 17 ls []) := by
  obtain ⟨hx, hb, hr, hml, hown, hts, hK, hN, hO, hlk, hbs⟩ := id X
  intro n
  induction n with
  | zero =>
    intro x1 x2 M H locs ls hf hR hl
    exact absurd (show none = some _ from hf) (fun h => by cases h)
  | succ n ih =>
    intro x1 x2 M H locs ls hf hR hl
    rw [fX3_findLots_17] at hf
    refine lv_iload_n hx hb dX3_findLots_17 rfl (lv_at hl 2 rfl) ?_
    refine lv_iconst (v := 1) hx hb dX3_findLots_18 (by decide) ?_
    refine lv_aload_n hx hb dX3_findLots_19 rfl (lv_at hl 0 rfl) ?_
    refine x_get hx hb hown hts hK hR kX3 (z_36 b) (j := 5) (by decide) fl_X3_55 (v := .int (M.1 36 5)) rfl dX3_findLots_20 ?_
    refine lv_ishl hx hb dX3_findLots_23 ?_
    refine lv_icmp_ge (tgt := 66) hx hb dX3_findLots_24 (by decide) (fun q24 => ?_) (fun q24 => ?_)
    · have hf := (br_if hf).1 q24
      exact hk66 hf hR (lv_sub hl [0, 1] rfl)
    · have hf := (br_if hf).2 q24
      refine lv_iload_n hx hb dX3_findLots_27 rfl (lv_at hl 2 rfl) ?_
      obtain ⟨q28, c28, hf⟩ := br_b hf
      refine x_callS (As := [.int x2]) (rest := []) (st1 := [.int q28]) X hR (ctJ6_bitCount_0f7a4 c28) ml_X3_71 st_J6_bitCount_0f7a4 in_J6 co_J6_bitCount_0f7a4 yo_J6_bitCount_0f7a4 (rm_ok (by decide) (by decide)) rfl hl.1 rfl rfl (Nat.le_of_ble_eq_true rfl) dX3_findLots_28 ⟨Nat.zero_le _, Nat.zero_le _⟩ (fun H locs hR => ?_)
      refine lv_iload_n hx hb dX3_findLots_31 rfl (lv_at hl 1 rfl) ?_
      refine lv_icmp_ne (tgt := 60) hx hb dX3_findLots_32 (by decide) (fun q32 => ?_) (fun q32 => ?_)
      · have hf := (br_if hf).2 q32
        exact wX3_findLots_60 X (fun hf hR hl => ih hf hR hl) (fun hf hR hl => hk50 hf hR hl) (fun hf hR hl => hk66 hf hR hl) hf hR hl
      · have hf := (br_if hf).1 q32
        refine lv_aload_n hx hb dX3_findLots_35 rfl (lv_at hl 0 rfl) ?_
        refine lv_iload_n hx hb dX3_findLots_36 rfl (lv_at hl 2 rfl) ?_
        obtain ⟨q37, c37, hf⟩ := br_b hf
        refine x_callV (k := 36) (As := [.int x2]) (rest := []) (st1 := [.int q37.1]) X hR (ctX3_shareAmong c37) ml_X3_88 im_X3_shareAmong se_X3_shareAmong in_X3 co_X3_shareAmong yo_X3_shareAmong rfl kX3 (z_36 b) (rm_ok (by decide) (by decide)) rfl hl.1 rfl rfl (Nat.le_of_ble_eq_true rfl) dX3_findLots_37 ⟨Nat.zero_le _, Nat.zero_le _⟩ (fun H locs hR => ?_)
        refine lv_if_eq (tgt := 60) hx hb dX3_findLots_40 (by decide) (fun q40 => ?_) (fun q40 => ?_)
        · have hf := (br_if hf).1 q40
          exact wX3_findLots_60 X (fun hf hR hl => ih hf hR hl) (fun hf hR hl => hk50 hf hR hl) (fun hf hR hl => hk66 hf hR hl) hf hR hl
        · have hf := (br_if hf).2 q40
          refine lv_aload_n hx hb dX3_findLots_43 rfl (lv_at hl 0 rfl) ?_
          obtain ⟨q44, c44, hf⟩ := br_b hf
          refine x_callV (k := 36) (As := []) (rest := []) (st1 := [.int q44]) X hR (ctX3_nobodyGains c44) ml_X3_92 im_X3_nobodyGains se_X3_nobodyGains in_X3 co_X3_nobodyGains yo_X3_nobodyGains rfl kX3 (z_36 b) (rm_ok (by decide) (by decide)) rfl hl.1 rfl rfl (Nat.le_of_ble_eq_true rfl) dX3_findLots_44 ⟨Nat.zero_le _, Nat.zero_le _⟩ (fun H locs hR => ?_)
          refine lv_if_eq (tgt := 60) hx hb dX3_findLots_47 (by decide) (fun q47 => ?_) (fun q47 => ?_)
          · have hf := (br_if hf).1 q47
            exact wX3_findLots_60 X (fun hf hR hl => ih hf hR hl) (fun hf hR hl => hk50 hf hR hl) (fun hf hR hl => hk66 hf hR hl) hf hR hl
          · have hf := (br_if hf).2 q47
            exact hk50 hf hR (lv_sub hl [0] rfl)
set_option maxHeartbeats 4000000 in
set_option maxRecDepth 100000 in
theorem wX3_findLots_66 {M1 : Mem} {k7 : Int32 → Mem → Option Mem} {k50 : Mem → Option Mem} {k72 : Mem → Option Mem} (X : CX E p s m args c meth cX3_findLots 3 none RX3) (hk7 : ∀ {x1 : Int32} {M : Mem} {H : Heap} {locs : List Loc} {ls : Array Slot}, k7 x1 M = some M1 → Rl E (sh_ b) (nn b) s.heap M H locs → lv_has ls 3 [(0, .ref (eB E + 36)), (1, .int x1)] → W p l e (rm 4 0 0) s m args below meth c H locs 0 0 (MQ below (qq E none (sh_ b) (nn b) M1) args s 0 0 (fr E)) (F0 m 7 ls [])) (hk50 : ∀ {M : Mem} {H : Heap} {locs : List Loc} {ls : Array Slot}, k50 M = some M1 → Rl E (sh_ b) (nn b) s.heap M H locs → lv_has ls 3 [(0, .ref (eB E + 36))] → W p l e (rm 4 0 0) s m args below meth c H locs 0 0 (MQ below (qq E none (sh_ b) (nn b) M1) args s 0 0 (fr E)) (F0 m 50 ls [])) (hk72 : ∀ {M : Mem} {H : Heap} {locs : List Loc} {ls : Array Slot}, k72 M = some M1 → Rl E (sh_ b) (nn b) s.heap M H locs → lv_has ls 3 [] → W p l e (rm 4 0 0) s m args below meth c H locs 0 0 (MQ below (qq E none (sh_ b) (nn b) M1) args s 0 0 (fr E)) (F0 m 72 ls [])) : ∀ {x1 : Int32} {M : Mem} {H : Heap} {locs : List Loc} {ls : Array Slot}, fX3_findLots_66 k7 k50 k72 x1 M = some M1 → Rl E (sh_ b) (nn b) s.heap M H locs → lv_has ls 3 [(0, .ref (eB E + 36)), (1, .int x1)] → W p l e (rm 4 0 0) s m args below meth c H locs 0 0 (MQ below (qq E none (sh_ b) (nn b) M1) args s 0 0 (fr E)) (F0 m 66 ls []) := by
  obtain ⟨hx, hb, hr, hml, hown, hts, hK, hN, hO, hlk, hbs⟩ := id X
  intro x1 M H locs ls hf hR hl
  unfold fX3_findLots_66 at hf
  obtain ⟨v66, e66⟩ : ∃ y : Int32, y = (x1 + (2 : Int32)) := ⟨_, rfl⟩
  have hf := nx_at e66 hf
  refine lv_iinc (v := v66) (lv' := [(1, .int v66), (0, .ref (eB E + 36))]) hx hb dX3_findLots_66 hl (k := 1) rfl (by rw [e66]; rfl) (by decide) rfl (fun ls hl => ?_)
  refine lv_goto (tgt := 7) hx hb dX3_findLots_69 (by decide) ?_
  exact hk7 hf hR (lv_sub hl [1, 0] rfl)
set_option maxHeartbeats 4000000 in
set_option maxRecDepth 100000 in
theorem wX3_findLots_7 {M1 : Mem} {k50 : Mem → Option Mem} {k72 : Mem → Option Mem} (X : CX E p s m args c meth cX3_findLots 3 none RX3) (hk50 : ∀ {M : Mem} {H : Heap} {locs : List Loc} {ls : Array Slot}, k50 M = some M1 → Rl E (sh_ b) (nn b) s.heap M H locs → lv_has ls 3 [(0, .ref (eB E + 36))] → W p l e (rm 4 0 0) s m args below meth c H locs 0 0 (MQ below (qq E none (sh_ b) (nn b) M1) args s 0 0 (fr E)) (F0 m 50 ls [])) (hk72 : ∀ {M : Mem} {H : Heap} {locs : List Loc} {ls : Array Slot}, k72 M = some M1 → Rl E (sh_ b) (nn b) s.heap M H locs → lv_has ls 3 [] → W p l e (rm 4 0 0) s m args below meth c H locs 0 0 (MQ below (qq E none (sh_ b) (nn b) M1) args s 0 0 (fr E)) (F0 m 72 ls [])) : ∀ (n : Nat) {x1 : Int32} {M : Mem} {H : Heap} {locs : List Loc} {ls : Array Slot}, fX3_findLots_7 k50 k72 n x1 M = some M1 → Rl E (sh_ b) (nn b) s.heap M H locs → lv_has ls 3 [(0, .ref (eB E + 36)), (1, .int x1)] → W p l e (rm 4 0 0) s m args below meth c H locs 0 0 (MQ below (qq E none (sh_ b) (nn b) M1) args s 0 0 (fr E)) (F0 m 7 ls []) := by
  obtain ⟨hx, hb, hr, hml, hown, hts, hK, hN, hO, hlk, hbs⟩ := id X
  intro n
  induction n with
  | zero =>
    intro x1 M H locs ls hf hR hl
    exact absurd (show none = some _ from hf) (fun h => by cases h)
  | succ n ih =>
    intro x1 M H locs ls hf hR hl
    rw [fX3_findLots_7] at hf
    refine lv_iload_n hx hb dX3_findLots_7 rfl (lv_at hl 1 rfl) ?_
    refine lv_aload_n hx hb dX3_findLots_8 rfl (lv_at hl 0 rfl) ?_
    refine x_get hx hb hown hts hK hR kX3 (z_36 b) (j := 5) (by decide) fl_X3_55 (v := .int (M.1 36 5)) rfl dX3_findLots_9 ?_
    refine lv_icmp_gt (tgt := 72) hx hb dX3_findLots_12 (by decide) (fun q12 => ?_) (fun q12 => ?_)
    · have hf := (br_if hf).1 q12
      exact hk72 hf hR (lv_sub hl [] rfl)
    · have hf := (br_if hf).2 q12
      refine lv_iconst (v := 1) hx hb dX3_findLots_15 (by decide) ?_
      refine lv_istore_n (lv' := [(2, .int (1 : Int32)), (0, .ref (eB E + 36)), (1, .int x1)]) hx hb dX3_findLots_16 rfl hl (by decide) rfl (fun ls hl => ?_)
      exact wX3_findLots_17 X (fun hf hR hl => hk50 hf hR hl) (fun hf hR hl => wX3_findLots_66 X (fun hf hR hl => ih hf hR hl) (fun hf hR hl => hk50 hf hR hl) (fun hf hR hl => hk72 hf hR hl) hf hR hl) FU hf hR (lv_sub hl [1, 2, 0] rfl)
set_option maxHeartbeats 4000000 in
set_option maxRecDepth 100000 in
theorem wX3_findLots_50 {M1 : Mem} (X : CX E p s m args c meth cX3_findLots 3 none RX3) : ∀ {M : Mem} {H : Heap} {locs : List Loc} {ls : Array Slot}, fX3_findLots_50 M = some M1 → Rl E (sh_ b) (nn b) s.heap M H locs → lv_has ls 3 [(0, .ref (eB E + 36))] → W p l e (rm 4 0 0) s m args below meth c H locs 0 0 (MQ below (qq E none (sh_ b) (nn b) M1) args s 0 0 (fr E)) (F0 m 50 ls []) := by
  obtain ⟨hx, hb, hr, hml, hown, hts, hK, hN, hO, hlk, hbs⟩ := id X
  intro M H locs ls hf hR hl
  unfold fX3_findLots_50 at hf
  refine lv_aload_n hx hb dX3_findLots_50 rfl (lv_at hl 0 rfl) ?_
  refine lv_iconst (v := 1) hx hb dX3_findLots_51 (by decide) ?_
  refine x_puti hx hb hown hts hK hR kX3 (z_36 b) (j := 6) (by decide) fl_X3_84 rfl rfl rfl rfl dX3_findLots_52 (fun H locs hR => ?_)
  obtain ⟨M52, e52⟩ : ∃ y : Mem, y = (sI M 36 6 (1 : Int32)) := ⟨_, rfl⟩
  have hf := nx_at e52 hf
  have hR : Rl E (sh_ b) (nn b) s.heap M52 H locs := by rw [e52]; exact hR
  refine lv_aload_n hx hb dX3_findLots_55 rfl (lv_at hl 0 rfl) ?_
  obtain ⟨q56, c56, hf⟩ := br_b hf
  refine x_callV (k := 36) (As := []) (rest := []) (st1 := []) X hR (ctX3_reduce c56) ml_X3_96 im_X3_reduce se_X3_reduce in_X3 co_X3_reduce yo_X3_reduce rfl kX3 (z_36 b) (rm_ok (by decide) (by decide)) rfl hl.1 rfl rfl (Nat.le_of_ble_eq_true rfl) dX3_findLots_56 ⟨Nat.zero_le _, Nat.zero_le _⟩ (fun H locs hR => ?_)
  cases hf
  exact x_vret hx hb hr hlk hR dX3_findLots_59
set_option maxHeartbeats 4000000 in
set_option maxRecDepth 100000 in
theorem wX3_findLots_72 {M1 : Mem} (X : CX E p s m args c meth cX3_findLots 3 none RX3) : ∀ {M : Mem} {H : Heap} {locs : List Loc} {ls : Array Slot}, fX3_findLots_72 M = some M1 → Rl E (sh_ b) (nn b) s.heap M H locs → lv_has ls 3 [] → W p l e (rm 4 0 0) s m args below meth c H locs 0 0 (MQ below (qq E none (sh_ b) (nn b) M1) args s 0 0 (fr E)) (F0 m 72 ls []) := by
  obtain ⟨hx, hb, hr, hml, hown, hts, hK, hN, hO, hlk, hbs⟩ := id X
  intro M H locs ls hf hR hl
  unfold fX3_findLots_72 at hf
  cases hf
  exact x_vret hx hb hr hlk hR dX3_findLots_72
set_option maxHeartbeats 4000000 in
set_option maxRecDepth 100000 in
theorem wX3_findLots_0 {M1 : Mem} (X : CX E p s m args c meth cX3_findLots 3 none RX3) : ∀ {M : Mem} {H : Heap} {locs : List Loc} {ls : Array Slot}, fX3_findLots M = some M1 → Rl E (sh_ b) (nn b) s.heap M H locs → lv_has ls 3 [(0, .ref (eB E + 36))] → W p l e (rm 4 0 0) s m args below meth c H locs 0 0 (MQ below (qq E none (sh_ b) (nn b) M1) args s 0 0 (fr E)) (F0 m 0 ls []) := by
  obtain ⟨hx, hb, hr, hml, hown, hts, hK, hN, hO, hlk, hbs⟩ := id X
  intro M H locs ls hf hR hl
  unfold fX3_findLots at hf
  refine lv_aload_n hx hb dX3_findLots_0 rfl (lv_at hl 0 rfl) ?_
  refine lv_iconst (v := 0) hx hb dX3_findLots_1 (by decide) ?_
  refine x_puti hx hb hown hts hK hR kX3 (z_36 b) (j := 6) (by decide) fl_X3_84 rfl rfl rfl rfl dX3_findLots_2 (fun H locs hR => ?_)
  obtain ⟨M2, e2⟩ : ∃ y : Mem, y = (sI M 36 6 (0 : Int32)) := ⟨_, rfl⟩
  have hf := nx_at e2 hf
  have hR : Rl E (sh_ b) (nn b) s.heap M2 H locs := by rw [e2]; exact hR
  refine lv_iconst (v := 1) hx hb dX3_findLots_5 (by decide) ?_
  refine lv_istore_n (lv' := [(1, .int (1 : Int32)), (0, .ref (eB E + 36))]) hx hb dX3_findLots_6 rfl hl (by decide) rfl (fun ls hl => ?_)
  exact wX3_findLots_7 X (fun hf hR hl => wX3_findLots_50 X hf hR hl) (fun hf hR hl => wX3_findLots_72 X hf hR hl) FU hf hR (lv_sub hl [1, 0] rfl)
theorem ctX3_findLots {l : Launch} {E : Ge} {b : Bool} {M : Mem} {M1 : Mem} (h : fX3_findLots M = some M1) : CT l E yX3_findLots cX3_findLots 3 none 4 0 0 [.ref (eB E + 36)] none (sh_ b) (nn b) M (sh_ b) (nn b) M1 := by
  refine met_of (by decide) (Nat.le_of_ble_eq_true rfl) ?_
  intro p e s m args below meth c X _ hR ls hl
  exact wX3_findLots_0 X h hR hl
def fX3_findRest_46 (k20 : Int32 → Int32 → Int32 → Mem → Option Mem) (k53 : Int32 → Int32 → Mem → Option Mem) (x1 : Int32) (x3 : Int32) (s0 : Int32) (M : Mem) : Option Mem := nx (x3 + (1 : Int32)) (fun v47 => k20 x1 s0 v47 M)
def fX3_findRest_45 (k20 : Int32 → Int32 → Int32 → Mem → Option Mem) (k53 : Int32 → Int32 → Mem → Option Mem) (x1 : Int32) (x3 : Int32) (M : Mem) : Option Mem := fX3_findRest_46 k20 k53 x1 x3 (0 : Int32) M
def fX3_findRest_20 (k53 : Int32 → Int32 → Mem → Option Mem) : Nat → Int32 → Int32 → Int32 → Mem → Option Mem
  | 0, _, _, _, _ => none
  | n + 1, x1, x2, x3, M => (if (M.1 36 5) ≤ x3 then k53 x1 x2 M else (if x2 = 0 then fX3_findRest_45 (fX3_findRest_20 k53 n) k53 x1 x3 M else (fX3_gainOf M x3 x1).bind (fun q35 => (if 0 < q35 then fX3_findRest_45 (fX3_findRest_20 k53 n) k53 x1 x3 M else fX3_findRest_46 (fX3_findRest_20 k53 n) k53 x1 x3 (1 : Int32) M))))
def fX3_findRest_62 (k12 : Int32 → Mem → Option Mem) (k68 : Mem → Option Mem) (x1 : Int32) (M : Mem) : Option Mem := nx (x1 + (-1 : Int32)) (fun v62 => k12 v62 M)
def fX3_findRest_53 (k12 : Int32 → Mem → Option Mem) (k68 : Mem → Option Mem) (x1 : Int32) (x2 : Int32) (M : Mem) : Option Mem := (if x2 = 0 then fX3_findRest_62 k12 k68 x1 M else nx (sI M 36 7 x1) (fun M59 => fX3_findRest_62 k12 k68 x1 M59))
def fX3_findRest_12 (k68 : Mem → Option Mem) : Nat → Int32 → Mem → Option Mem
  | 0, _, _ => none
  | n + 1, x1, M => (if x1 < 0 then k68 M else fX3_findRest_20 (fX3_findRest_53 (fX3_findRest_12 k68 n) k68) FU x1 (1 : Int32) (0 : Int32) M)
def fX3_findRest_68 (M : Mem) : Option Mem := some M
def fX3_findRest (M : Mem) : Option Mem := nx (sI M 36 7 (-1 : Int32)) (fun M2 => nx ((M2.1 36 5) - (1 : Int32)) (fun v11 => fX3_findRest_12 fX3_findRest_68 FU v11 M2))
set_option maxHeartbeats 4000000 in
set_option maxRecDepth 100000 in
theorem wX3_findRest_46 {M1 : Mem} {k20 : Int32 → Int32 → Int32 → Mem → Option Mem} {k53 : Int32 → Int32 → Mem → Option Mem} (X : CX E p s m args c meth cX3_findRest 4 none RX3) (hk20 : ∀ {x1 : Int32} {x2 : Int32} {x3 : Int32} {M : Mem} {H : Heap} {locs : List Loc} {ls : Array Slot}, k20 x1 x2 x3 M = some M1 → Rl E (sh_ b) (nn b) s.heap M H locs → lv_has ls 4 [(0, .ref (eB E + 36)), (1, .int x1), (2, .int x2), (3, .int x3)] → W p l e (rm 2 0 0) s m args below meth c H locs 0 0 (MQ below (qq E none (sh_ b) (nn b) M1) args s 0 0 (fr E)) (F0 m 20 ls [])) (hk53 : ∀ {x1 : Int32} {x2 : Int32} {M : Mem} {H : Heap} {locs : List Loc} {ls : Array Slot}, k53 x1 x2 M = some M1 → Rl E (sh_ b) (nn b) s.heap M H locs → lv_has ls 4 [(0, .ref (eB E + 36)), (1, .int x1), (2, .int x2)] → W p l e (rm 2 0 0) s m args below meth c H locs 0 0 (MQ below (qq E none (sh_ b) (nn b) M1) args s 0 0 (fr E)) (F0 m 53 ls [])) : ∀ {x1 : Int32} {x3 : Int32} {s0 : Int32} {M : Mem} {H : Heap} {locs : List Loc} {ls : Array Slot}, fX3_findRest_46 k20 k53 x1 x3 s0 M = some M1 → Rl E (sh_ b) (nn b) s.heap M H locs → lv_has ls 4 [(0, .ref (eB E + 36)), (1, .int x1), (3, .int x3)] → W p l e (rm 2 0 0) s m args below meth c H locs 0 0 (MQ below (qq E none (sh_ b) (nn b) M1) args s 0 0 (fr E)) (F0 m 46 ls [.int s0]) := by
  obtain ⟨hx, hb, hr, hml, hown, hts, hK, hN, hO, hlk, hbs⟩ := id X
  intro x1 x3 s0 M H locs ls hf hR hl
  unfold fX3_findRest_46 at hf
  refine lv_istore_n (lv' := [(2, .int s0), (0, .ref (eB E + 36)), (1, .int x1), (3, .int x3)]) hx hb dX3_findRest_46 rfl hl (by decide) rfl (fun ls hl => ?_)
  obtain ⟨v47, e47⟩ : ∃ y : Int32, y = (x3 + (1 : Int32)) := ⟨_, rfl⟩
  have hf := nx_at e47 hf
  refine lv_iinc (v := v47) (lv' := [(3, .int v47), (2, .int s0), (0, .ref (eB E + 36)), (1, .int x1)]) hx hb dX3_findRest_47 hl (k := 3) rfl (by rw [e47]; rfl) (by decide) rfl (fun ls hl => ?_)
  refine lv_goto (tgt := 20) hx hb dX3_findRest_50 (by decide) ?_
  exact hk20 hf hR (lv_sub hl [2, 3, 1, 0] rfl)
set_option maxHeartbeats 4000000 in
set_option maxRecDepth 100000 in
theorem wX3_findRest_45 {M1 : Mem} {k20 : Int32 → Int32 → Int32 → Mem → Option Mem} {k53 : Int32 → Int32 → Mem → Option Mem} (X : CX E p s m args c meth cX3_findRest 4 none RX3) (hk20 : ∀ {x1 : Int32} {x2 : Int32} {x3 : Int32} {M : Mem} {H : Heap} {locs : List Loc} {ls : Array Slot}, k20 x1 x2 x3 M = some M1 → Rl E (sh_ b) (nn b) s.heap M H locs → lv_has ls 4 [(0, .ref (eB E + 36)), (1, .int x1), (2, .int x2), (3, .int x3)] → W p l e (rm 2 0 0) s m args below meth c H locs 0 0 (MQ below (qq E none (sh_ b) (nn b) M1) args s 0 0 (fr E)) (F0 m 20 ls [])) (hk53 : ∀ {x1 : Int32} {x2 : Int32} {M : Mem} {H : Heap} {locs : List Loc} {ls : Array Slot}, k53 x1 x2 M = some M1 → Rl E (sh_ b) (nn b) s.heap M H locs → lv_has ls 4 [(0, .ref (eB E + 36)), (1, .int x1), (2, .int x2)] → W p l e (rm 2 0 0) s m args below meth c H locs 0 0 (MQ below (qq E none (sh_ b) (nn b) M1) args s 0 0 (fr E)) (F0 m 53 ls [])) : ∀ {x1 : Int32} {x3 : Int32} {M : Mem} {H : Heap} {locs : List Loc} {ls : Array Slot}, fX3_findRest_45 k20 k53 x1 x3 M = some M1 → Rl E (sh_ b) (nn b) s.heap M H locs → lv_has ls 4 [(0, .ref (eB E + 36)), (1, .int x1), (3, .int x3)] → W p l e (rm 2 0 0) s m args below meth c H locs 0 0 (MQ below (qq E none (sh_ b) (nn b) M1) args s 0 0 (fr E)) (F0 m 45 ls []) := by
  obtain ⟨hx, hb, hr, hml, hown, hts, hK, hN, hO, hlk, hbs⟩ := id X
  intro x1 x3 M H locs ls hf hR hl
  unfold fX3_findRest_45 at hf
  refine lv_iconst (v := 0) hx hb dX3_findRest_45 (by decide) ?_
  exact wX3_findRest_46 X (fun hf hR hl => hk20 hf hR hl) (fun hf hR hl => hk53 hf hR hl) hf hR hl
set_option maxHeartbeats 4000000 in
set_option maxRecDepth 100000 in
theorem wX3_findRest_20 {M1 : Mem} {k53 : Int32 → Int32 → Mem → Option Mem} (X : CX E p s m args c meth cX3_findRest 4 none RX3) (hk53 : ∀ {x1 : Int32} {x2 : Int32} {M : Mem} {H : Heap} {locs : List Loc} {ls : Array Slot}, k53 x1 x2 M = some M1 → Rl E (sh_ b) (nn b) s.heap M H locs → lv_has ls 4 [(0, .ref (eB E + 36)), (1, .int x1), (2, .int x2)] → W p l e (rm 2 0 0) s m args below meth c H locs 0 0 (MQ below (qq E none (sh_ b) (nn b) M1) args s 0 0 (fr E)) (F0 m 53 ls [])) : ∀ (n : Nat) {x1 : Int32} {x2 : Int32} {x3 : Int32} {M : Mem} {H : Heap} {locs : List Loc} {ls : Array Slot}, fX3_findRest_20 k53 n x1 x2 x3 M = some M1 → Rl E (sh_ b) (nn b) s.heap M H locs → lv_has ls 4 [(0, .ref (eB E + 36)), (1, .int x1), (2, .int x2), (3, .int x3)] → W p l e (rm 2 0 0) s m args below meth c H locs 0 0 (MQ below (qq E none (sh_ b) (nn b) M1) args s 0 0 (fr E)) (F0 m 20 ls []) := by
  obtain ⟨hx, hb, hr, hml, hown, hts, hK, hN, hO, hlk, hbs⟩ := id X
  intro n
  induction n with
  | zero =>
    intro x1 x2 x3 M H locs ls hf hR hl
    exact absurd (show none = some _ from hf) (fun h => by cases h)
  | succ n ih =>
    intro x1 x2 x3 M H locs ls hf hR hl
    rw [fX3_findRest_20] at hf
    refine lv_iload_n hx hb dX3_findRest_20 rfl (lv_at hl 3 rfl) ?_
    refine lv_aload_n hx hb dX3_findRest_21 rfl (lv_at hl 0 rfl) ?_
    refine x_get hx hb hown hts hK hR kX3 (z_36 b) (j := 5) (by decide) fl_X3_55 (v := .int (M.1 36 5)) rfl dX3_findRest_22 ?_
    refine lv_icmp_ge (tgt := 53) hx hb dX3_findRest_25 (by decide) (fun q25 => ?_) (fun q25 => ?_)
    · have hf := (br_if hf).1 q25
      exact hk53 hf hR (lv_sub hl [0, 1, 2] rfl)
    · have hf := (br_if hf).2 q25
      refine lv_iload_n hx hb dX3_findRest_28 rfl (lv_at hl 2 rfl) ?_
      refine lv_if_eq (tgt := 45) hx hb dX3_findRest_29 (by decide) (fun q29 => ?_) (fun q29 => ?_)
      · have hf := (br_if hf).1 q29
        exact wX3_findRest_45 X (fun hf hR hl => ih hf hR hl) (fun hf hR hl => hk53 hf hR hl) hf hR (lv_sub hl [0, 1, 3] rfl)
      · have hf := (br_if hf).2 q29
        refine lv_aload_n hx hb dX3_findRest_32 rfl (lv_at hl 0 rfl) ?_
        refine lv_iload_n hx hb dX3_findRest_33 rfl (lv_at hl 3 rfl) ?_
        refine lv_iload_n hx hb dX3_findRest_34 rfl (lv_at hl 1 rfl) ?_
        obtain ⟨q35, c35, hf⟩ := br_b hf
        refine x_callV (k := 36) (As := [.int x3, .int x1]) (rest := []) (st1 := [.int q35]) X hR (ctX3_gainOf c35) ml_X3_68 im_X3_gainOf se_X3_gainOf in_X3 co_X3_gainOf yo_X3_gainOf rfl kX3 (z_36 b) (rm_ok (by decide) (by decide)) rfl hl.1 rfl rfl (Nat.le_of_ble_eq_true rfl) dX3_findRest_35 ⟨Nat.zero_le _, Nat.zero_le _⟩ (fun H locs hR => ?_)
        refine lv_if_gt (tgt := 45) hx hb dX3_findRest_38 (by decide) (fun q38 => ?_) (fun q38 => ?_)
        · have hf := (br_if hf).1 q38
          exact wX3_findRest_45 X (fun hf hR hl => ih hf hR hl) (fun hf hR hl => hk53 hf hR hl) hf hR (lv_sub hl [0, 1, 3] rfl)
        · have hf := (br_if hf).2 q38
          refine lv_iconst (v := 1) hx hb dX3_findRest_41 (by decide) ?_
          refine lv_goto (tgt := 46) hx hb dX3_findRest_42 (by decide) ?_
          exact wX3_findRest_46 X (fun hf hR hl => ih hf hR hl) (fun hf hR hl => hk53 hf hR hl) hf hR (lv_sub hl [0, 1, 3] rfl)
set_option maxHeartbeats 4000000 in
set_option maxRecDepth 100000 in
theorem wX3_findRest_62 {M1 : Mem} {k12 : Int32 → Mem → Option Mem} {k68 : Mem → Option Mem} (X : CX E p s m args c meth cX3_findRest 4 none RX3) (hk12 : ∀ {x1 : Int32} {M : Mem} {H : Heap} {locs : List Loc} {ls : Array Slot}, k12 x1 M = some M1 → Rl E (sh_ b) (nn b) s.heap M H locs → lv_has ls 4 [(0, .ref (eB E + 36)), (1, .int x1)] → W p l e (rm 2 0 0) s m args below meth c H locs 0 0 (MQ below (qq E none (sh_ b) (nn b) M1) args s 0 0 (fr E)) (F0 m 12 ls [])) (hk68 : ∀ {M : Mem} {H : Heap} {locs : List Loc} {ls : Array Slot}, k68 M = some M1 → Rl E (sh_ b) (nn b) s.heap M H locs → lv_has ls 4 [] → W p l e (rm 2 0 0) s m args below meth c H locs 0 0 (MQ below (qq E none (sh_ b) (nn b) M1) args s 0 0 (fr E)) (F0 m 68 ls [])) : ∀ {x1 : Int32} {M : Mem} {H : Heap} {locs : List Loc} {ls : Array Slot}, fX3_findRest_62 k12 k68 x1 M = some M1 → Rl E (sh_ b) (nn b) s.heap M H locs → lv_has ls 4 [(0, .ref (eB E + 36)), (1, .int x1)] → W p l e (rm 2 0 0) s m args below meth c H locs 0 0 (MQ below (qq E none (sh_ b) (nn b) M1) args s 0 0 (fr E)) (F0 m 62 ls []) := by
  obtain ⟨hx, hb, hr, hml, hown, hts, hK, hN, hO, hlk, hbs⟩ := id X
  intro x1 M H locs ls hf hR hl
  unfold fX3_findRest_62 at hf
  obtain ⟨v62, e62⟩ : ∃ y : Int32, y = (x1 + (-1 : Int32)) := ⟨_, rfl⟩
  have hf := nx_at e62 hf
  refine lv_iinc (v := v62) (lv' := [(1, .int v62), (0, .ref (eB E + 36))]) hx hb dX3_findRest_62 hl (k := 1) rfl (by rw [e62]; rfl) (by decide) rfl (fun ls hl => ?_)
  refine lv_goto (tgt := 12) hx hb dX3_findRest_65 (by decide) ?_
  exact hk12 hf hR (lv_sub hl [1, 0] rfl)
set_option maxHeartbeats 4000000 in
set_option maxRecDepth 100000 in
theorem wX3_findRest_53 {M1 : Mem} {k12 : Int32 → Mem → Option Mem} {k68 : Mem → Option Mem} (X : CX E p s m args c meth cX3_findRest 4 none RX3) (hk12 : ∀ {x1 : Int32} {M : Mem} {H : Heap} {locs : List Loc} {ls : Array Slot}, k12 x1 M = some M1 → Rl E (sh_ b) (nn b) s.heap M H locs → lv_has ls 4 [(0, .ref (eB E + 36)), (1, .int x1)] → W p l e (rm 2 0 0) s m args below meth c H locs 0 0 (MQ below (qq E none (sh_ b) (nn b) M1) args s 0 0 (fr E)) (F0 m 12 ls [])) (hk68 : ∀ {M : Mem} {H : Heap} {locs : List Loc} {ls : Array Slot}, k68 M = some M1 → Rl E (sh_ b) (nn b) s.heap M H locs → lv_has ls 4 [] → W p l e (rm 2 0 0) s m args below meth c H locs 0 0 (MQ below (qq E none (sh_ b) (nn b) M1) args s 0 0 (fr E)) (F0 m 68 ls [])) : ∀ {x1 : Int32} {x2 : Int32} {M : Mem} {H : Heap} {locs : List Loc} {ls : Array Slot}, fX3_findRest_53 k12 k68 x1 x2 M = some M1 → Rl E (sh_ b) (nn b) s.heap M H locs → lv_has ls 4 [(0, .ref (eB E + 36)), (1, .int x1), (2, .int x2)] → W p l e (rm 2 0 0) s m args below meth c H locs 0 0 (MQ below (qq E none (sh_ b) (nn b) M1) args s 0 0 (fr E)) (F0 m 53 ls []) := by
  obtain ⟨hx, hb, hr, hml, hown, hts, hK, hN, hO, hlk, hbs⟩ := id X
  intro x1 x2 M H locs ls hf hR hl
  unfold fX3_findRest_53 at hf
  refine lv_iload_n hx hb dX3_findRest_53 rfl (lv_at hl 2 rfl) ?_
  refine lv_if_eq (tgt := 62) hx hb dX3_findRest_54 (by decide) (fun q54 => ?_) (fun q54 => ?_)
  · have hf := (br_if hf).1 q54
    exact wX3_findRest_62 X (fun hf hR hl => hk12 hf hR hl) (fun hf hR hl => hk68 hf hR hl) hf hR (lv_sub hl [0, 1] rfl)
  · have hf := (br_if hf).2 q54
    refine lv_aload_n hx hb dX3_findRest_57 rfl (lv_at hl 0 rfl) ?_
    refine lv_iload_n hx hb dX3_findRest_58 rfl (lv_at hl 1 rfl) ?_
    refine x_puti hx hb hown hts hK hR kX3 (z_36 b) (j := 7) (by decide) fl_X3_22 rfl rfl rfl rfl dX3_findRest_59 (fun H locs hR => ?_)
    obtain ⟨M59, e59⟩ : ∃ y : Mem, y = (sI M 36 7 x1) := ⟨_, rfl⟩
    have hf := nx_at e59 hf
    have hR : Rl E (sh_ b) (nn b) s.heap M59 H locs := by rw [e59]; exact hR
    exact wX3_findRest_62 X (fun hf hR hl => hk12 hf hR hl) (fun hf hR hl => hk68 hf hR hl) hf hR (lv_sub hl [0, 1] rfl)
set_option maxHeartbeats 4000000 in
set_option maxRecDepth 100000 in
theorem wX3_findRest_12 {M1 : Mem} {k68 : Mem → Option Mem} (X : CX E p s m args c meth cX3_findRest 4 none RX3) (hk68 : ∀ {M : Mem} {H : Heap} {locs : List Loc} {ls : Array Slot}, k68 M = some M1 → Rl E (sh_ b) (nn b) s.heap M H locs → lv_has ls 4 [] → W p l e (rm 2 0 0) s m args below meth c H locs 0 0 (MQ below (qq E none (sh_ b) (nn b) M1) args s 0 0 (fr E)) (F0 m 68 ls [])) : ∀ (n : Nat) {x1 : Int32} {M : Mem} {H : Heap} {locs : List Loc} {ls : Array Slot}, fX3_findRest_12 k68 n x1 M = some M1 → Rl E (sh_ b) (nn b) s.heap M H locs → lv_has ls 4 [(0, .ref (eB E + 36)), (1, .int x1)] → W p l e (rm 2 0 0) s m args below meth c H locs 0 0 (MQ below (qq E none (sh_ b) (nn b) M1) args s 0 0 (fr E)) (F0 m 12 ls []) := by
  obtain ⟨hx, hb, hr, hml, hown, hts, hK, hN, hO, hlk, hbs⟩ := id X
  intro n
  induction n with
  | zero =>
    intro x1 M H locs ls hf hR hl
    exact absurd (show none = some _ from hf) (fun h => by cases h)
  | succ n ih =>
    intro x1 M H locs ls hf hR hl
    rw [fX3_findRest_12] at hf
    refine lv_iload_n hx hb dX3_findRest_12 rfl (lv_at hl 1 rfl) ?_
    refine lv_if_lt (tgt := 68) hx hb dX3_findRest_13 (by decide) (fun q13 => ?_) (fun q13 => ?_)
    · have hf := (br_if hf).1 q13
      exact hk68 hf hR (lv_sub hl [] rfl)
    · have hf := (br_if hf).2 q13
      refine lv_iconst (v := 1) hx hb dX3_findRest_16 (by decide) ?_
      refine lv_istore_n (lv' := [(2, .int (1 : Int32)), (0, .ref (eB E + 36)), (1, .int x1)]) hx hb dX3_findRest_17 rfl hl (by decide) rfl (fun ls hl => ?_)
      refine lv_iconst (v := 0) hx hb dX3_findRest_18 (by decide) ?_
      refine lv_istore_n (lv' := [(3, .int (0 : Int32)), (2, .int (1 : Int32)), (0, .ref (eB E + 36)), (1, .int x1)]) hx hb dX3_findRest_19 rfl hl (by decide) rfl (fun ls hl => ?_)
      exact wX3_findRest_20 X (fun hf hR hl => wX3_findRest_53 X (fun hf hR hl => ih hf hR hl) (fun hf hR hl => hk68 hf hR hl) hf hR hl) FU hf hR (lv_sub hl [2, 3, 1, 0] rfl)
set_option maxHeartbeats 4000000 in
set_option maxRecDepth 100000 in
theorem wX3_findRest_68 {M1 : Mem} (X : CX E p s m args c meth cX3_findRest 4 none RX3) : ∀ {M : Mem} {H : Heap} {locs : List Loc} {ls : Array Slot}, fX3_findRest_68 M = some M1 → Rl E (sh_ b) (nn b) s.heap M H locs → lv_has ls 4 [] → W p l e (rm 2 0 0) s m args below meth c H locs 0 0 (MQ below (qq E none (sh_ b) (nn b) M1) args s 0 0 (fr E)) (F0 m 68 ls []) := by
  obtain ⟨hx, hb, hr, hml, hown, hts, hK, hN, hO, hlk, hbs⟩ := id X
  intro M H locs ls hf hR hl
  unfold fX3_findRest_68 at hf
  cases hf
  exact x_vret hx hb hr hlk hR dX3_findRest_68
set_option maxHeartbeats 4000000 in
set_option maxRecDepth 100000 in
theorem wX3_findRest_0 {M1 : Mem} (X : CX E p s m args c meth cX3_findRest 4 none RX3) : ∀ {M : Mem} {H : Heap} {locs : List Loc} {ls : Array Slot}, fX3_findRest M = some M1 → Rl E (sh_ b) (nn b) s.heap M H locs → lv_has ls 4 [(0, .ref (eB E + 36))] → W p l e (rm 2 0 0) s m args below meth c H locs 0 0 (MQ below (qq E none (sh_ b) (nn b) M1) args s 0 0 (fr E)) (F0 m 0 ls []) := by
  obtain ⟨hx, hb, hr, hml, hown, hts, hK, hN, hO, hlk, hbs⟩ := id X
  intro M H locs ls hf hR hl
  unfold fX3_findRest at hf
  refine lv_aload_n hx hb dX3_findRest_0 rfl (lv_at hl 0 rfl) ?_
  refine lv_iconst (v := -1) hx hb dX3_findRest_1 (by decide) ?_
  refine x_puti hx hb hown hts hK hR kX3 (z_36 b) (j := 7) (by decide) fl_X3_22 rfl rfl rfl rfl dX3_findRest_2 (fun H locs hR => ?_)
  obtain ⟨M2, e2⟩ : ∃ y : Mem, y = (sI M 36 7 (-1 : Int32)) := ⟨_, rfl⟩
  have hf := nx_at e2 hf
  have hR : Rl E (sh_ b) (nn b) s.heap M2 H locs := by rw [e2]; exact hR
  refine lv_aload_n hx hb dX3_findRest_5 rfl (lv_at hl 0 rfl) ?_
  refine x_get hx hb hown hts hK hR kX3 (z_36 b) (j := 5) (by decide) fl_X3_55 (v := .int (M2.1 36 5)) rfl dX3_findRest_6 ?_
  refine lv_iconst (v := 1) hx hb dX3_findRest_9 (by decide) ?_
  refine lv_isub hx hb dX3_findRest_10 ?_
  refine lv_topi (fun v11 e11 => ?_)
  have hf := nx_at e11 hf
  refine lv_istore_n (lv' := [(1, .int v11), (0, .ref (eB E + 36))]) hx hb dX3_findRest_11 rfl hl (by decide) rfl (fun ls hl => ?_)
  exact wX3_findRest_12 X (fun hf hR hl => wX3_findRest_68 X hf hR hl) FU hf hR (lv_sub hl [1, 0] rfl)
theorem ctX3_findRest {l : Launch} {E : Ge} {b : Bool} {M : Mem} {M1 : Mem} (h : fX3_findRest M = some M1) : CT l E yX3_findRest cX3_findRest 4 none 2 0 0 [.ref (eB E + 36)] none (sh_ b) (nn b) M (sh_ b) (nn b) M1 := by
  refine met_of (by decide) (Nat.le_of_ble_eq_true rfl) ?_
  intro p e s m args below meth c X _ hR ls hl
  exact wX3_findRest_0 X h hR hl
def fX3_refresh_72 (k116 : Int32 → Mem → Option Mem) : Nat → Int32 → Int32 → Mem → Option Mem
  | 0, _, _, _ => none
  | n + 1, x2, x3, M => (if (M.1 36 5) ≤ x3 then k116 x2 M else (fX0_forOf M x2 x3).bind (fun q96 => (fX0_forOf M x3 x2).bind (fun q105 => (if inb ((x2 * (8 : Int32)) + x3) 64 = true then nx (sI M 37 (ix ((x2 * (8 : Int32)) + x3)) (q96 - q105)) (fun M109 => nx (x3 + (1 : Int32)) (fun v110 => fX3_refresh_72 k116 n x2 v110 M109)) else none))))
def fX3_refresh_116 (k62 : Int32 → Mem → Option Mem) (k122 : Mem → Option Mem) (x2 : Int32) (M : Mem) : Option Mem := nx (x2 + (1 : Int32)) (fun v116 => k62 v116 M)
def fX3_refresh_62 (k122 : Mem → Option Mem) : Nat → Int32 → Mem → Option Mem
  | 0, _, _ => none
  | n + 1, x2, M => (if (M.1 36 5) ≤ x2 then k122 M else fX3_refresh_72 (fX3_refresh_116 (fX3_refresh_62 k122 n) k122) FU x2 (0 : Int32) M)
def fX3_refresh_122 (M : Mem) : Option Mem := (fX3_findRest M).bind (fun q123 => (fX3_fillPfaffians q123).bind (fun q127 => (fX3_findLots q127).bind (fun q131 => some q131)))
def fX3_refresh_31 (M : Mem) : Option Mem := nx (sI M 36 8 (M.1 1 14)) (fun M36 => nx (sI M36 36 9 (M36.1 1 15)) (fun M44 => nx (sI M44 36 5 (imin (8 : Int32) (M44.1 1 8))) (fun M57 => fX3_refresh_62 fX3_refresh_122 FU (0 : Int32) M57)))
def fX3_refresh (M : Mem) : Option Mem := (if (M.1 36 8) = (M.1 1 14) then (if (M.1 36 9) = (M.1 1 15) then some M else fX3_refresh_31 M) else fX3_refresh_31 M)
set_option maxHeartbeats 4000000 in
set_option maxRecDepth 100000 in
theorem wX3_refresh_72 {M1 : Mem} {k116 : Int32 → Mem → Option Mem} (X : CX E p s m args c meth cX3_refresh 4 none RX3) (hk116 : ∀ {x2 : Int32} {M : Mem} {H : Heap} {locs : List Loc} {ls : Array Slot}, k116 x2 M = some M1 → Rl E (sh_ b) (nn b) s.heap M H locs → lv_has ls 4 [(0, .ref (eB E + 36)), (2, .int x2)] → W p l e (rm 5 0 0) s m args below meth c H locs 0 0 (MQ below (qq E none (sh_ b) (nn b) M1) args s 0 0 (fr E)) (F0 m 116 ls [])) : ∀ (n : Nat) {x2 : Int32} {x3 : Int32} {M : Mem} {H : Heap} {locs : List Loc} {ls : Array Slot}, fX3_refresh_72 k116 n x2 x3 M = some M1 → Rl E (sh_ b) (nn b) s.heap M H locs → lv_has ls 4 [(0, .ref (eB E + 36)), (2, .int x2), (3, .int x3)] → W p l e (rm 5 0 0) s m args below meth c H locs 0 0 (MQ below (qq E none (sh_ b) (nn b) M1) args s 0 0 (fr E)) (F0 m 72 ls []) := by
  obtain ⟨hx, hb, hr, hml, hown, hts, hK, hN, hO, hlk, hbs⟩ := id X
  intro n
  induction n with
  | zero =>
    intro x2 x3 M H locs ls hf hR hl
    exact absurd (show none = some _ from hf) (fun h => by cases h)
  | succ n ih =>
    intro x2 x3 M H locs ls hf hR hl
    rw [fX3_refresh_72] at hf
    refine lv_iload_n hx hb dX3_refresh_72 rfl (lv_at hl 2 rfl) ?_
    refine lv_aload_n hx hb dX3_refresh_73 rfl (lv_at hl 0 rfl) ?_
    refine x_get hx hb hown hts hK hR kX3 (z_36 b) (j := 5) (by decide) fl_X3_55 (v := .int (M.1 36 5)) rfl dX3_refresh_74 ?_
    refine lv_icmp_ge (tgt := 116) hx hb dX3_refresh_77 (by decide) (fun q77 => ?_) (fun q77 => ?_)
    · have hf := (br_if hf).1 q77
      exact hk116 hf hR (lv_sub hl [0, 1] rfl)
    · have hf := (br_if hf).2 q77
      refine lv_aload_n hx hb dX3_refresh_80 rfl (lv_at hl 0 rfl) ?_
      refine x_get hx hb hown hts hK hR kX3 (z_36 b) (j := 1) (by decide) fl_X3_9 (v := .ref (eB E + 37)) rfl dX3_refresh_81 ?_
      refine lv_iload_n hx hb dX3_refresh_84 rfl (lv_at hl 1 rfl) ?_
      refine lv_bipush (v := 8) hx hb dX3_refresh_85 (by decide) ?_
      refine lv_imul hx hb dX3_refresh_87 ?_
      refine lv_iload_n hx hb dX3_refresh_88 rfl (lv_at hl 2 rfl) ?_
      refine lv_iadd hx hb dX3_refresh_89 ?_
      refine lv_aload_n hx hb dX3_refresh_90 rfl (lv_at hl 0 rfl) ?_
      refine x_get hx hb hown hts hK hR kX3 (z_36 b) (j := 0) (by decide) fl_X3_32 (v := .ref (eB E + 21)) rfl dX3_refresh_91 ?_
      refine lv_iload_n hx hb dX3_refresh_94 rfl (lv_at hl 1 rfl) ?_
      refine lv_iload_n hx hb dX3_refresh_95 rfl (lv_at hl 2 rfl) ?_
      obtain ⟨q96, c96, hf⟩ := br_b hf
      refine x_callV (k := 21) (As := [.int x2, .int x3]) (rest := [.int ((x2 * (8 : Int32)) + x3), .ref (eB E + 37)]) (st1 := [.int q96, .int ((x2 * (8 : Int32)) + x3), .ref (eB E + 37)]) X hR (ctX0_forOf c96) ml_X3_56 im_X0_forOf se_X0_forOf in_X0 co_X0_forOf yo_X0_forOf rfl kX0 (z_21 b) (rm_ok (by decide) (by decide)) rfl hl.1 rfl rfl (Nat.le_of_ble_eq_true rfl) dX3_refresh_96 ⟨Nat.zero_le _, Nat.zero_le _⟩ (fun H locs hR => ?_)
      refine lv_aload_n hx hb dX3_refresh_99 rfl (lv_at hl 0 rfl) ?_
      refine x_get hx hb hown hts hK hR kX3 (z_36 b) (j := 0) (by decide) fl_X3_32 (v := .ref (eB E + 21)) rfl dX3_refresh_100 ?_
      refine lv_iload_n hx hb dX3_refresh_103 rfl (lv_at hl 2 rfl) ?_
      refine lv_iload_n hx hb dX3_refresh_104 rfl (lv_at hl 1 rfl) ?_
      obtain ⟨q105, c105, hf⟩ := br_b hf
      refine x_callV (k := 21) (As := [.int x3, .int x2]) (rest := [.int q96, .int ((x2 * (8 : Int32)) + x3), .ref (eB E + 37)]) (st1 := [.int q105, .int q96, .int ((x2 * (8 : Int32)) + x3), .ref (eB E + 37)]) X hR (ctX0_forOf c105) ml_X3_56 im_X0_forOf se_X0_forOf in_X0 co_X0_forOf yo_X0_forOf rfl kX0 (z_21 b) (rm_ok (by decide) (by decide)) rfl hl.1 rfl rfl (Nat.le_of_ble_eq_true rfl) dX3_refresh_105 ⟨Nat.zero_le _, Nat.zero_le _⟩ (fun H locs hR => ?_)
      refine lv_isub hx hb dX3_refresh_108 ?_
      obtain ⟨g109, hf⟩ := br_g hf
      refine x_iast hx hb hK hR (z_37 b) g109 dX3_refresh_109 (fun H locs hR => ?_)
      obtain ⟨M109, e109⟩ : ∃ y : Mem, y = (sI M 37 (ix ((x2 * (8 : Int32)) + x3)) (q96 - q105)) := ⟨_, rfl⟩
      have hf := nx_at e109 hf
      have hR : Rl E (sh_ b) (nn b) s.heap M109 H locs := by rw [e109]; exact hR
      obtain ⟨v110, e110⟩ : ∃ y : Int32, y = (x3 + (1 : Int32)) := ⟨_, rfl⟩
      have hf := nx_at e110 hf
      refine lv_iinc (v := v110) (lv' := [(3, .int v110), (0, .ref (eB E + 36)), (2, .int x2)]) hx hb dX3_refresh_110 hl (k := 2) rfl (by rw [e110]; rfl) (by decide) rfl (fun ls hl => ?_)
      refine lv_goto (tgt := 72) hx hb dX3_refresh_113 (by decide) ?_
      exact ih hf hR (lv_sub hl [1, 2, 0] rfl)
set_option maxHeartbeats 4000000 in
set_option maxRecDepth 100000 in
theorem wX3_refresh_116 {M1 : Mem} {k62 : Int32 → Mem → Option Mem} {k122 : Mem → Option Mem} (X : CX E p s m args c meth cX3_refresh 4 none RX3) (hk62 : ∀ {x2 : Int32} {M : Mem} {H : Heap} {locs : List Loc} {ls : Array Slot}, k62 x2 M = some M1 → Rl E (sh_ b) (nn b) s.heap M H locs → lv_has ls 4 [(0, .ref (eB E + 36)), (2, .int x2)] → W p l e (rm 5 0 0) s m args below meth c H locs 0 0 (MQ below (qq E none (sh_ b) (nn b) M1) args s 0 0 (fr E)) (F0 m 62 ls [])) (hk122 : ∀ {M : Mem} {H : Heap} {locs : List Loc} {ls : Array Slot}, k122 M = some M1 → Rl E (sh_ b) (nn b) s.heap M H locs → lv_has ls 4 [(0, .ref (eB E + 36))] → W p l e (rm 5 0 0) s m args below meth c H locs 0 0 (MQ below (qq E none (sh_ b) (nn b) M1) args s 0 0 (fr E)) (F0 m 122 ls [])) : ∀ {x2 : Int32} {M : Mem} {H : Heap} {locs : List Loc} {ls : Array Slot}, fX3_refresh_116 k62 k122 x2 M = some M1 → Rl E (sh_ b) (nn b) s.heap M H locs → lv_has ls 4 [(0, .ref (eB E + 36)), (2, .int x2)] → W p l e (rm 5 0 0) s m args below meth c H locs 0 0 (MQ below (qq E none (sh_ b) (nn b) M1) args s 0 0 (fr E)) (F0 m 116 ls []) := by
  obtain ⟨hx, hb, hr, hml, hown, hts, hK, hN, hO, hlk, hbs⟩ := id X
  intro x2 M H locs ls hf hR hl
  unfold fX3_refresh_116 at hf
  obtain ⟨v116, e116⟩ : ∃ y : Int32, y = (x2 + (1 : Int32)) := ⟨_, rfl⟩
  have hf := nx_at e116 hf
  refine lv_iinc (v := v116) (lv' := [(2, .int v116), (0, .ref (eB E + 36))]) hx hb dX3_refresh_116 hl (k := 1) rfl (by rw [e116]; rfl) (by decide) rfl (fun ls hl => ?_)
  refine lv_goto (tgt := 62) hx hb dX3_refresh_119 (by decide) ?_
  exact hk62 hf hR (lv_sub hl [1, 0] rfl)
set_option maxHeartbeats 4000000 in
set_option maxRecDepth 100000 in
theorem wX3_refresh_62 {M1 : Mem} {k122 : Mem → Option Mem} (X : CX E p s m args c meth cX3_refresh 4 none RX3) (hk122 : ∀ {M : Mem} {H : Heap} {locs : List Loc} {ls : Array Slot}, k122 M = some M1 → Rl E (sh_ b) (nn b) s.heap M H locs → lv_has ls 4 [(0, .ref (eB E + 36))] → W p l e (rm 5 0 0) s m args below meth c H locs 0 0 (MQ below (qq E none (sh_ b) (nn b) M1) args s 0 0 (fr E)) (F0 m 122 ls [])) : ∀ (n : Nat) {x2 : Int32} {M : Mem} {H : Heap} {locs : List Loc} {ls : Array Slot}, fX3_refresh_62 k122 n x2 M = some M1 → Rl E (sh_ b) (nn b) s.heap M H locs → lv_has ls 4 [(0, .ref (eB E + 36)), (2, .int x2)] → W p l e (rm 5 0 0) s m args below meth c H locs 0 0 (MQ below (qq E none (sh_ b) (nn b) M1) args s 0 0 (fr E)) (F0 m 62 ls []) := by
  obtain ⟨hx, hb, hr, hml, hown, hts, hK, hN, hO, hlk, hbs⟩ := id X
  intro n
  induction n with
  | zero =>
    intro x2 M H locs ls hf hR hl
    exact absurd (show none = some _ from hf) (fun h => by cases h)
  | succ n ih =>
    intro x2 M H locs ls hf hR hl
    rw [fX3_refresh_62] at hf
    refine lv_iload_n hx hb dX3_refresh_62 rfl (lv_at hl 1 rfl) ?_
    refine lv_aload_n hx hb dX3_refresh_63 rfl (lv_at hl 0 rfl) ?_
    refine x_get hx hb hown hts hK hR kX3 (z_36 b) (j := 5) (by decide) fl_X3_55 (v := .int (M.1 36 5)) rfl dX3_refresh_64 ?_
    refine lv_icmp_ge (tgt := 122) hx hb dX3_refresh_67 (by decide) (fun q67 => ?_) (fun q67 => ?_)
    · have hf := (br_if hf).1 q67
      exact hk122 hf hR (lv_sub hl [0] rfl)
    · have hf := (br_if hf).2 q67
      refine lv_iconst (v := 0) hx hb dX3_refresh_70 (by decide) ?_
      refine lv_istore_n (lv' := [(3, .int (0 : Int32)), (0, .ref (eB E + 36)), (2, .int x2)]) hx hb dX3_refresh_71 rfl hl (by decide) rfl (fun ls hl => ?_)
      exact wX3_refresh_72 X (fun hf hR hl => wX3_refresh_116 X (fun hf hR hl => ih hf hR hl) (fun hf hR hl => hk122 hf hR hl) hf hR hl) FU hf hR (lv_sub hl [1, 2, 0] rfl)
set_option maxHeartbeats 4000000 in
set_option maxRecDepth 100000 in
theorem wX3_refresh_122 {M1 : Mem} (X : CX E p s m args c meth cX3_refresh 4 none RX3) : ∀ {M : Mem} {H : Heap} {locs : List Loc} {ls : Array Slot}, fX3_refresh_122 M = some M1 → Rl E (sh_ b) (nn b) s.heap M H locs → lv_has ls 4 [(0, .ref (eB E + 36))] → W p l e (rm 5 0 0) s m args below meth c H locs 0 0 (MQ below (qq E none (sh_ b) (nn b) M1) args s 0 0 (fr E)) (F0 m 122 ls []) := by
  obtain ⟨hx, hb, hr, hml, hown, hts, hK, hN, hO, hlk, hbs⟩ := id X
  intro M H locs ls hf hR hl
  unfold fX3_refresh_122 at hf
  refine lv_aload_n hx hb dX3_refresh_122 rfl (lv_at hl 0 rfl) ?_
  obtain ⟨q123, c123, hf⟩ := br_b hf
  refine x_callV (k := 36) (As := []) (rest := []) (st1 := []) X hR (ctX3_findRest c123) ml_X3_59 im_X3_findRest se_X3_findRest in_X3 co_X3_findRest yo_X3_findRest rfl kX3 (z_36 b) (rm_ok (by decide) (by decide)) rfl hl.1 rfl rfl (Nat.le_of_ble_eq_true rfl) dX3_refresh_123 ⟨Nat.zero_le _, Nat.zero_le _⟩ (fun H locs hR => ?_)
  refine lv_aload_n hx hb dX3_refresh_126 rfl (lv_at hl 0 rfl) ?_
  obtain ⟨q127, c127, hf⟩ := br_b hf
  refine x_callV (k := 36) (As := []) (rest := []) (st1 := []) X hR (ctX3_fillPfaffians c127) ml_X3_62 im_X3_fillPfaffians se_X3_fillPfaffians in_X3 co_X3_fillPfaffians yo_X3_fillPfaffians rfl kX3 (z_36 b) (rm_ok (by decide) (by decide)) rfl hl.1 rfl rfl (Nat.le_of_ble_eq_true rfl) dX3_refresh_127 ⟨Nat.zero_le _, Nat.zero_le _⟩ (fun H locs hR => ?_)
  refine lv_aload_n hx hb dX3_refresh_130 rfl (lv_at hl 0 rfl) ?_
  obtain ⟨q131, c131, hf⟩ := br_b hf
  refine x_callV (k := 36) (As := []) (rest := []) (st1 := []) X hR (ctX3_findLots c131) ml_X3_65 im_X3_findLots se_X3_findLots in_X3 co_X3_findLots yo_X3_findLots rfl kX3 (z_36 b) (rm_ok (by decide) (by decide)) rfl hl.1 rfl rfl (Nat.le_of_ble_eq_true rfl) dX3_refresh_131 ⟨Nat.zero_le _, Nat.zero_le _⟩ (fun H locs hR => ?_)
  cases hf
  exact x_vret hx hb hr hlk hR dX3_refresh_134
set_option maxHeartbeats 4000000 in
set_option maxRecDepth 100000 in
theorem wX3_refresh_31 {M1 : Mem} (X : CX E p s m args c meth cX3_refresh 4 none RX3) : ∀ {M : Mem} {H : Heap} {locs : List Loc} {ls : Array Slot}, fX3_refresh_31 M = some M1 → Rl E (sh_ b) (nn b) s.heap M H locs → lv_has ls 4 [(0, .ref (eB E + 36)), (1, .ref (eB E + 1))] → W p l e (rm 5 0 0) s m args below meth c H locs 0 0 (MQ below (qq E none (sh_ b) (nn b) M1) args s 0 0 (fr E)) (F0 m 31 ls []) := by
  obtain ⟨hx, hb, hr, hml, hown, hts, hK, hN, hO, hlk, hbs⟩ := id X
  intro M H locs ls hf hR hl
  unfold fX3_refresh_31 at hf
  refine lv_aload_n hx hb dX3_refresh_31 rfl (lv_at hl 0 rfl) ?_
  refine lv_aload_n hx hb dX3_refresh_32 rfl (lv_at hl 1 rfl) ?_
  refine x_get hx hb hown hts hK hR kX8 (z_1 b) (j := 14) (by decide) fl_X3_42 (v := .int (M.1 1 14)) rfl dX3_refresh_33 ?_
  refine x_puti hx hb hown hts hK hR kX3 (z_36 b) (j := 8) (by decide) fl_X3_26 rfl rfl rfl rfl dX3_refresh_36 (fun H locs hR => ?_)
  obtain ⟨M36, e36⟩ : ∃ y : Mem, y = (sI M 36 8 (M.1 1 14)) := ⟨_, rfl⟩
  have hf := nx_at e36 hf
  have hR : Rl E (sh_ b) (nn b) s.heap M36 H locs := by rw [e36]; exact hR
  refine lv_aload_n hx hb dX3_refresh_39 rfl (lv_at hl 0 rfl) ?_
  refine lv_aload_n hx hb dX3_refresh_40 rfl (lv_at hl 1 rfl) ?_
  refine x_get hx hb hown hts hK hR kX8 (z_1 b) (j := 15) (by decide) fl_X3_45 (v := .int (M36.1 1 15)) rfl dX3_refresh_41 ?_
  refine x_puti hx hb hown hts hK hR kX3 (z_36 b) (j := 9) (by decide) fl_X3_29 rfl rfl rfl rfl dX3_refresh_44 (fun H locs hR => ?_)
  obtain ⟨M44, e44⟩ : ∃ y : Mem, y = (sI M36 36 9 (M36.1 1 15)) := ⟨_, rfl⟩
  have hf := nx_at e44 hf
  have hR : Rl E (sh_ b) (nn b) s.heap M44 H locs := by rw [e44]; exact hR
  refine lv_aload_n hx hb dX3_refresh_47 rfl (lv_at hl 0 rfl) ?_
  refine lv_bipush (v := 8) hx hb dX3_refresh_48 (by decide) ?_
  refine lv_aload_n hx hb dX3_refresh_50 rfl (lv_at hl 1 rfl) ?_
  refine x_get hx hb hown hts hK hR kX8 (z_1 b) (j := 8) (by decide) fl_X3_46 (v := .int (M44.1 1 8)) rfl dX3_refresh_51 ?_
  refine va_mmin hx hb (by rw [hml]; exact hl.1.symm) hown (hts _ ml_X3_49) (hts _ st_min) (hts _ in_J9) (hts _ co_min) (by decide) (Nat.le_of_ble_eq_true rfl) (Nat.zero_le _) (Nat.zero_le _) dX3_refresh_54 ?_
  refine W.eq (g2 := F0 m 57 ls [.int (imin (8 : Int32) (M44.1 1 8)), .ref (eB E + 36)]) rfl ?_
  refine x_puti hx hb hown hts hK hR kX3 (z_36 b) (j := 5) (by decide) fl_X3_55 rfl rfl rfl rfl dX3_refresh_57 (fun H locs hR => ?_)
  obtain ⟨M57, e57⟩ : ∃ y : Mem, y = (sI M44 36 5 (imin (8 : Int32) (M44.1 1 8))) := ⟨_, rfl⟩
  have hf := nx_at e57 hf
  have hR : Rl E (sh_ b) (nn b) s.heap M57 H locs := by rw [e57]; exact hR
  refine lv_iconst (v := 0) hx hb dX3_refresh_60 (by decide) ?_
  refine lv_istore_n (lv' := [(2, .int (0 : Int32)), (0, .ref (eB E + 36)), (1, .ref (eB E + 1))]) hx hb dX3_refresh_61 rfl hl (by decide) rfl (fun ls hl => ?_)
  exact wX3_refresh_62 X (fun hf hR hl => wX3_refresh_122 X hf hR hl) FU hf hR (lv_sub hl [1, 0] rfl)
set_option maxHeartbeats 4000000 in
set_option maxRecDepth 100000 in
theorem wX3_refresh_0 {M1 : Mem} (X : CX E p s m args c meth cX3_refresh 4 none RX3) : ∀ {M : Mem} {H : Heap} {locs : List Loc} {ls : Array Slot}, fX3_refresh M = some M1 → Rl E (sh_ b) (nn b) s.heap M H locs → lv_has ls 4 [(0, .ref (eB E + 36))] → W p l e (rm 5 0 0) s m args below meth c H locs 0 0 (MQ below (qq E none (sh_ b) (nn b) M1) args s 0 0 (fr E)) (F0 m 0 ls []) := by
  obtain ⟨hx, hb, hr, hml, hown, hts, hK, hN, hO, hlk, hbs⟩ := id X
  intro M H locs ls hf hR hl
  unfold fX3_refresh at hf
  refine lv_aload_n hx hb dX3_refresh_0 rfl (lv_at hl 0 rfl) ?_
  refine x_get hx hb hown hts hK hR kX3 (z_36 b) (j := 0) (by decide) fl_X3_32 (v := .ref (eB E + 21)) rfl dX3_refresh_1 ?_
  refine x_get hx hb hown hts hK hR kX0 (z_21 b) (j := 0) (by decide) fl_X3_36 (v := .ref (eB E + 1)) rfl dX3_refresh_4 ?_
  refine lv_astore_n (lv' := [(1, .ref (eB E + 1)), (0, .ref (eB E + 36))]) hx hb dX3_refresh_7 rfl hl (by decide) rfl (fun ls hl => ?_)
  refine lv_aload_n hx hb dX3_refresh_8 rfl (lv_at hl 1 rfl) ?_
  refine x_get hx hb hown hts hK hR kX3 (z_36 b) (j := 8) (by decide) fl_X3_26 (v := .int (M.1 36 8)) rfl dX3_refresh_9 ?_
  refine lv_aload_n hx hb dX3_refresh_12 rfl (lv_at hl 0 rfl) ?_
  refine x_get hx hb hown hts hK hR kX8 (z_1 b) (j := 14) (by decide) fl_X3_42 (v := .int (M.1 1 14)) rfl dX3_refresh_13 ?_
  refine lv_icmp_ne (tgt := 31) hx hb dX3_refresh_16 (by decide) (fun q16 => ?_) (fun q16 => ?_)
  · have hf := (br_if hf).2 q16
    exact wX3_refresh_31 X hf hR (lv_sub hl [1, 0] rfl)
  · have hf := (br_if hf).1 q16
    refine lv_aload_n hx hb dX3_refresh_19 rfl (lv_at hl 1 rfl) ?_
    refine x_get hx hb hown hts hK hR kX3 (z_36 b) (j := 9) (by decide) fl_X3_29 (v := .int (M.1 36 9)) rfl dX3_refresh_20 ?_
    refine lv_aload_n hx hb dX3_refresh_23 rfl (lv_at hl 0 rfl) ?_
    refine x_get hx hb hown hts hK hR kX8 (z_1 b) (j := 15) (by decide) fl_X3_45 (v := .int (M.1 1 15)) rfl dX3_refresh_24 ?_
    refine lv_icmp_ne (tgt := 31) hx hb dX3_refresh_27 (by decide) (fun q27 => ?_) (fun q27 => ?_)
    · have hf := (br_if hf).2 q27
      exact wX3_refresh_31 X hf hR (lv_sub hl [1, 0] rfl)
    · have hf := (br_if hf).1 q27
      cases hf
      exact x_vret hx hb hr hlk hR dX3_refresh_30
theorem ctX3_refresh {l : Launch} {E : Ge} {b : Bool} {M : Mem} {M1 : Mem} (h : fX3_refresh M = some M1) : CT l E yX3_refresh cX3_refresh 4 none 5 0 0 [.ref (eB E + 36)] none (sh_ b) (nn b) M (sh_ b) (nn b) M1 := by
  refine met_of (by decide) (Nat.le_of_ble_eq_true rfl) ?_
  intro p e s m args below meth c X _ hR ls hl
  exact wX3_refresh_0 X h hR hl
def fX9_wayFrom (M : Mem) (x1 : Int32) (x2 : Int32) (x3 : Int32) (x4 : Int32) : Option Int32 := (if inb x4 20 = true then (if inb x4 20 = true then (fX8_wayOver_t M x1 (iabs ((M.1 8 (ix x4)) - x2)) (iabs ((M.1 9 (ix x4)) - x3))).bind (fun q35 => some q35) else none) else none)
set_option maxHeartbeats 4000000 in
set_option maxRecDepth 100000 in
theorem wX9_wayFrom_0 {r : Int32} {M : Mem} (X : CX E p s m args c meth cX9_wayFrom 5 (some .int) RX9) : ∀ {x1 : Int32} {x2 : Int32} {x3 : Int32} {x4 : Int32} {H : Heap} {locs : List Loc} {ls : Array Slot}, fX9_wayFrom M x1 x2 x3 x4 = some r → Rl E (sh_ b) (nn b) s.heap M H locs → lv_has ls 5 [(0, .ref (eB E + 40)), (1, .int x1), (2, .int x2), (3, .int x3), (4, .int x4)] → W p l e (rm 3 0 0) s m args below meth c H locs 0 0 (MQ below (qq E (some (.int r)) (sh_ b) (nn b) M) args s 0 0 (fr E)) (F0 m 0 ls []) := by
  obtain ⟨hx, hb, hr, hml, hown, hts, hK, hN, hO, hlk, hbs⟩ := id X
  intro x1 x2 x3 x4 H locs ls hf hR hl
  unfold fX9_wayFrom at hf
  refine lv_aload_n hx hb dX9_wayFrom_0 rfl (lv_at hl 0 rfl) ?_
  refine x_get hx hb hown hts hK hR kX9 (z_40 b) (j := 1) (by decide) fl_X9_50 (v := .ref (eB E + 1)) rfl dX9_wayFrom_1 ?_
  refine lv_iload_n hx hb dX9_wayFrom_4 rfl (lv_at hl 1 rfl) ?_
  refine lv_aload_n hx hb dX9_wayFrom_5 rfl (lv_at hl 0 rfl) ?_
  refine x_get hx hb hown hts hK hR kX9 (z_40 b) (j := 1) (by decide) fl_X9_50 (v := .ref (eB E + 1)) rfl dX9_wayFrom_6 ?_
  refine x_get hx hb hown hts hK hR kX8 (z_1 b) (j := 9) (by decide) fl_X9_75 (v := .ref (eB E + 8)) rfl dX9_wayFrom_9 ?_
  refine lv_iload hx hb dX9_wayFrom_12 (lv_at hl 4 rfl) ?_
  obtain ⟨g14, hf⟩ := br_g hf
  refine x_iald hx hb hK hR (z_8 b) g14 dX9_wayFrom_14 ?_
  refine lv_iload_n hx hb dX9_wayFrom_15 rfl (lv_at hl 2 rfl) ?_
  refine lv_isub hx hb dX9_wayFrom_16 ?_
  refine va_mabs hx hb (by rw [hml]; exact hl.1.symm) hown (hts _ ml_X9_92) (hts _ st_abs) (hts _ in_J9) (hts _ co_abs) (by decide) (Nat.le_of_ble_eq_true rfl) (Nat.zero_le _) (Nat.zero_le _) dX9_wayFrom_17 ?_
  refine W.eq (g2 := F0 m 20 ls [.int (iabs ((M.1 8 (ix x4)) - x2)), .int x1, .ref (eB E + 1)]) rfl ?_
  refine lv_aload_n hx hb dX9_wayFrom_20 rfl (lv_at hl 0 rfl) ?_
  refine x_get hx hb hown hts hK hR kX9 (z_40 b) (j := 1) (by decide) fl_X9_50 (v := .ref (eB E + 1)) rfl dX9_wayFrom_21 ?_
  refine x_get hx hb hown hts hK hR kX8 (z_1 b) (j := 10) (by decide) fl_X9_78 (v := .ref (eB E + 9)) rfl dX9_wayFrom_24 ?_
  refine lv_iload hx hb dX9_wayFrom_27 (lv_at hl 4 rfl) ?_
  obtain ⟨g29, hf⟩ := br_g hf
  refine x_iald hx hb hK hR (z_9 b) g29 dX9_wayFrom_29 ?_
  refine lv_iload_n hx hb dX9_wayFrom_30 rfl (lv_at hl 3 rfl) ?_
  refine lv_isub hx hb dX9_wayFrom_31 ?_
  refine va_mabs hx hb (by rw [hml]; exact hl.1.symm) hown (hts _ ml_X9_92) (hts _ st_abs) (hts _ in_J9) (hts _ co_abs) (by decide) (Nat.le_of_ble_eq_true rfl) (Nat.zero_le _) (Nat.zero_le _) dX9_wayFrom_32 ?_
  refine W.eq (g2 := F0 m 35 ls [.int (iabs ((M.1 9 (ix x4)) - x3)), .int (iabs ((M.1 8 (ix x4)) - x2)), .int x1, .ref (eB E + 1)]) rfl ?_
  obtain ⟨q35, c35, hf⟩ := br_b hf
  refine x_callV (k := 1) (As := [.int x1, .int (iabs ((M.1 8 (ix x4)) - x2)), .int (iabs ((M.1 9 (ix x4)) - x3))]) (rest := []) (st1 := [.int q35]) X hR (ctX8_wayOver_t c35) ml_X9_98 im_X8_wayOver se_X8_wayOver in_X8 co_X8_wayOver yo_X8_wayOver rfl kX8 (z_1 b) (rm_ok (by decide) (by decide)) rfl hl.1 rfl rfl (Nat.le_of_ble_eq_true rfl) dX9_wayFrom_35 ⟨Nat.zero_le _, Nat.zero_le _⟩ (fun H locs hR => ?_)
  cases hf
  exact x_iret hx hb hr hlk hR dX9_wayFrom_38
theorem ctX9_wayFrom {l : Launch} {E : Ge} {b : Bool} {M : Mem} {x1 : Int32} {x2 : Int32} {x3 : Int32} {x4 : Int32} {r : Int32} (h : fX9_wayFrom M x1 x2 x3 x4 = some r) : CT l E yX9_wayFrom cX9_wayFrom 5 (some .int) 3 0 0 [.ref (eB E + 40), .int x1, .int x2, .int x3, .int x4] (some (.int r)) (sh_ b) (nn b) M (sh_ b) (nn b) M := by
  refine met_of (by decide) (Nat.le_of_ble_eq_true rfl) ?_
  intro p e s m args below meth c X _ hR ls hl
  exact wX9_wayFrom_0 X h hR hl
def fX9_fillWays_41_3 (k35 : Mem → Option Mem) : Nat → Int32 → Int32 → Int32 → Int32 → Mem → Option Mem
  | 0, _, _, _, _, _ => none
  | n + 1, x1, x2, x3, x5, M => (if (M.1 1 8) ≤ x5 then k35 M else (fX9_wayFrom M x1 x2 x3 x5).bind (fun q25 => (if inb x5 20 = true then nx (sI M 41 (ix x5) q25) (fun M28 => nx (x5 + (1 : Int32)) (fun v29 => fX9_fillWays_41_3 k35 n x1 x2 x3 v29 M28)) else none)))
def fX9_fillWays_41_35 (M : Mem) : Option Mem := some M
def fX9_fillWays_41 (x1 : Int32) (x2 : Int32) (x3 : Int32) (M : Mem) : Option Mem := fX9_fillWays_41_3 fX9_fillWays_41_35 FU x1 x2 x3 (0 : Int32) M
set_option maxHeartbeats 4000000 in
set_option maxRecDepth 100000 in
theorem wX9_fillWays_41_3 {M1 : Mem} {k35 : Mem → Option Mem} (X : CX E p s m args c meth cX9_fillWays 6 none RX9) (hk35 : ∀ {M : Mem} {H : Heap} {locs : List Loc} {ls : Array Slot}, k35 M = some M1 → Rl E (sh_ b) (nn b) s.heap M H locs → lv_has ls 6 [] → W p l e (rm 4 0 0) s m args below meth c H locs 0 0 (MQ below (qq E none (sh_ b) (nn b) M1) args s 0 0 (fr E)) (F0 m 35 ls [])) : ∀ (n : Nat) {x1 : Int32} {x2 : Int32} {x3 : Int32} {x5 : Int32} {M : Mem} {H : Heap} {locs : List Loc} {ls : Array Slot}, fX9_fillWays_41_3 k35 n x1 x2 x3 x5 M = some M1 → Rl E (sh_ b) (nn b) s.heap M H locs → lv_has ls 6 [(0, .ref (eB E + 40)), (1, .int x1), (2, .int x2), (3, .int x3), (4, .ref (eB E + 41)), (5, .int x5)] → W p l e (rm 4 0 0) s m args below meth c H locs 0 0 (MQ below (qq E none (sh_ b) (nn b) M1) args s 0 0 (fr E)) (F0 m 3 ls []) := by
  obtain ⟨hx, hb, hr, hml, hown, hts, hK, hN, hO, hlk, hbs⟩ := id X
  intro n
  induction n with
  | zero =>
    intro x1 x2 x3 x5 M H locs ls hf hR hl
    exact absurd (show none = some _ from hf) (fun h => by cases h)
  | succ n ih =>
    intro x1 x2 x3 x5 M H locs ls hf hR hl
    rw [fX9_fillWays_41_3] at hf
    refine lv_iload hx hb dX9_fillWays_3 (lv_at hl 5 rfl) ?_
    refine lv_aload_n hx hb dX9_fillWays_5 rfl (lv_at hl 0 rfl) ?_
    refine x_get hx hb hown hts hK hR kX9 (z_40 b) (j := 1) (by decide) fl_X9_50 (v := .ref (eB E + 1)) rfl dX9_fillWays_6 ?_
    refine x_get hx hb hown hts hK hR kX8 (z_1 b) (j := 8) (by decide) fl_X9_68 (v := .int (M.1 1 8)) rfl dX9_fillWays_9 ?_
    refine lv_icmp_ge (tgt := 35) hx hb dX9_fillWays_12 (by decide) (fun q12 => ?_) (fun q12 => ?_)
    · have hf := (br_if hf).1 q12
      exact hk35 hf hR (lv_sub hl [] rfl)
    · have hf := (br_if hf).2 q12
      refine lv_aload hx hb dX9_fillWays_15 (lv_at hl 4 rfl) ?_
      refine lv_iload hx hb dX9_fillWays_17 (lv_at hl 5 rfl) ?_
      refine lv_aload_n hx hb dX9_fillWays_19 rfl (lv_at hl 0 rfl) ?_
      refine lv_iload_n hx hb dX9_fillWays_20 rfl (lv_at hl 1 rfl) ?_
      refine lv_iload_n hx hb dX9_fillWays_21 rfl (lv_at hl 2 rfl) ?_
      refine lv_iload_n hx hb dX9_fillWays_22 rfl (lv_at hl 3 rfl) ?_
      refine lv_iload hx hb dX9_fillWays_23 (lv_at hl 5 rfl) ?_
      obtain ⟨q25, c25, hf⟩ := br_b hf
      refine x_callV (k := 40) (As := [.int x1, .int x2, .int x3, .int x5]) (rest := [.int x5, .ref (eB E + 41)]) (st1 := [.int q25, .int x5, .ref (eB E + 41)]) X hR (ctX9_wayFrom c25) ml_X9_88 im_X9_wayFrom se_X9_wayFrom in_X9 co_X9_wayFrom yo_X9_wayFrom rfl kX9 (z_40 b) (rm_ok (by decide) (by decide)) rfl hl.1 rfl rfl (Nat.le_of_ble_eq_true rfl) dX9_fillWays_25 ⟨Nat.zero_le _, Nat.zero_le _⟩ (fun H locs hR => ?_)
      obtain ⟨g28, hf⟩ := br_g hf
      refine x_iast hx hb hK hR (z_41 b) g28 dX9_fillWays_28 (fun H locs hR => ?_)
      obtain ⟨M28, e28⟩ : ∃ y : Mem, y = (sI M 41 (ix x5) q25) := ⟨_, rfl⟩
      have hf := nx_at e28 hf
      have hR : Rl E (sh_ b) (nn b) s.heap M28 H locs := by rw [e28]; exact hR
      obtain ⟨v29, e29⟩ : ∃ y : Int32, y = (x5 + (1 : Int32)) := ⟨_, rfl⟩
      have hf := nx_at e29 hf
      refine lv_iinc (v := v29) (lv' := [(5, .int v29), (0, .ref (eB E + 40)), (1, .int x1), (2, .int x2), (3, .int x3), (4, .ref (eB E + 41))]) hx hb dX9_fillWays_29 hl (k := 5) rfl (by rw [e29]; rfl) (by decide) rfl (fun ls hl => ?_)
      refine lv_goto (tgt := 3) hx hb dX9_fillWays_32 (by decide) ?_
      exact ih hf hR (lv_sub hl [1, 2, 3, 4, 5, 0] rfl)
set_option maxHeartbeats 4000000 in
set_option maxRecDepth 100000 in
theorem wX9_fillWays_41_35 {M1 : Mem} (X : CX E p s m args c meth cX9_fillWays 6 none RX9) : ∀ {M : Mem} {H : Heap} {locs : List Loc} {ls : Array Slot}, fX9_fillWays_41_35 M = some M1 → Rl E (sh_ b) (nn b) s.heap M H locs → lv_has ls 6 [] → W p l e (rm 4 0 0) s m args below meth c H locs 0 0 (MQ below (qq E none (sh_ b) (nn b) M1) args s 0 0 (fr E)) (F0 m 35 ls []) := by
  obtain ⟨hx, hb, hr, hml, hown, hts, hK, hN, hO, hlk, hbs⟩ := id X
  intro M H locs ls hf hR hl
  unfold fX9_fillWays_41_35 at hf
  cases hf
  exact x_vret hx hb hr hlk hR dX9_fillWays_35
set_option maxHeartbeats 4000000 in
set_option maxRecDepth 100000 in
theorem wX9_fillWays_41_0 {M1 : Mem} (X : CX E p s m args c meth cX9_fillWays 6 none RX9) : ∀ {x1 : Int32} {x2 : Int32} {x3 : Int32} {M : Mem} {H : Heap} {locs : List Loc} {ls : Array Slot}, fX9_fillWays_41 x1 x2 x3 M = some M1 → Rl E (sh_ b) (nn b) s.heap M H locs → lv_has ls 6 [(0, .ref (eB E + 40)), (1, .int x1), (2, .int x2), (3, .int x3), (4, .ref (eB E + 41))] → W p l e (rm 4 0 0) s m args below meth c H locs 0 0 (MQ below (qq E none (sh_ b) (nn b) M1) args s 0 0 (fr E)) (F0 m 0 ls []) := by
  obtain ⟨hx, hb, hr, hml, hown, hts, hK, hN, hO, hlk, hbs⟩ := id X
  intro x1 x2 x3 M H locs ls hf hR hl
  unfold fX9_fillWays_41 at hf
  refine lv_iconst (v := 0) hx hb dX9_fillWays_0 (by decide) ?_
  refine lv_istore (lv' := [(5, .int (0 : Int32)), (0, .ref (eB E + 40)), (1, .int x1), (2, .int x2), (3, .int x3), (4, .ref (eB E + 41))]) hx hb dX9_fillWays_1 hl (by decide) rfl (fun ls hl => ?_)
  exact wX9_fillWays_41_3 X (fun hf hR hl => wX9_fillWays_41_35 X hf hR hl) FU hf hR (lv_sub hl [1, 2, 3, 4, 5, 0] rfl)
theorem ctX9_fillWays_41 {l : Launch} {E : Ge} {b : Bool} {M : Mem} {x1 : Int32} {x2 : Int32} {x3 : Int32} {M1 : Mem} (h : fX9_fillWays_41 x1 x2 x3 M = some M1) : CT l E yX9_fillWays cX9_fillWays 6 none 4 0 0 [.ref (eB E + 40), .int x1, .int x2, .int x3, .ref (eB E + 41)] none (sh_ b) (nn b) M (sh_ b) (nn b) M1 := by
  refine met_of (by decide) (Nat.le_of_ble_eq_true rfl) ?_
  intro p e s m args below meth c X _ hR ls hl
  exact wX9_fillWays_41_0 X h hR hl
def fX9_fillWays_42_3 (k35 : Mem → Option Mem) : Nat → Int32 → Int32 → Int32 → Int32 → Mem → Option Mem
  | 0, _, _, _, _, _ => none
  | n + 1, x1, x2, x3, x5, M => (if (M.1 1 8) ≤ x5 then k35 M else (fX9_wayFrom M x1 x2 x3 x5).bind (fun q25 => (if inb x5 20 = true then nx (sI M 42 (ix x5) q25) (fun M28 => nx (x5 + (1 : Int32)) (fun v29 => fX9_fillWays_42_3 k35 n x1 x2 x3 v29 M28)) else none)))
def fX9_fillWays_42_35 (M : Mem) : Option Mem := some M
def fX9_fillWays_42 (x1 : Int32) (x2 : Int32) (x3 : Int32) (M : Mem) : Option Mem := fX9_fillWays_42_3 fX9_fillWays_42_35 FU x1 x2 x3 (0 : Int32) M
set_option maxHeartbeats 4000000 in
set_option maxRecDepth 100000 in
theorem wX9_fillWays_42_3 {M1 : Mem} {k35 : Mem → Option Mem} (X : CX E p s m args c meth cX9_fillWays 6 none RX9) (hk35 : ∀ {M : Mem} {H : Heap} {locs : List Loc} {ls : Array Slot}, k35 M = some M1 → Rl E (sh_ b) (nn b) s.heap M H locs → lv_has ls 6 [] → W p l e (rm 4 0 0) s m args below meth c H locs 0 0 (MQ below (qq E none (sh_ b) (nn b) M1) args s 0 0 (fr E)) (F0 m 35 ls [])) : ∀ (n : Nat) {x1 : Int32} {x2 : Int32} {x3 : Int32} {x5 : Int32} {M : Mem} {H : Heap} {locs : List Loc} {ls : Array Slot}, fX9_fillWays_42_3 k35 n x1 x2 x3 x5 M = some M1 → Rl E (sh_ b) (nn b) s.heap M H locs → lv_has ls 6 [(0, .ref (eB E + 40)), (1, .int x1), (2, .int x2), (3, .int x3), (4, .ref (eB E + 42)), (5, .int x5)] → W p l e (rm 4 0 0) s m args below meth c H locs 0 0 (MQ below (qq E none (sh_ b) (nn b) M1) args s 0 0 (fr E)) (F0 m 3 ls []) := by
  obtain ⟨hx, hb, hr, hml, hown, hts, hK, hN, hO, hlk, hbs⟩ := id X
  intro n
  induction n with
  | zero =>
    intro x1 x2 x3 x5 M H locs ls hf hR hl
    exact absurd (show none = some _ from hf) (fun h => by cases h)
  | succ n ih =>
    intro x1 x2 x3 x5 M H locs ls hf hR hl
    rw [fX9_fillWays_42_3] at hf
    refine lv_iload hx hb dX9_fillWays_3 (lv_at hl 5 rfl) ?_
    refine lv_aload_n hx hb dX9_fillWays_5 rfl (lv_at hl 0 rfl) ?_
    refine x_get hx hb hown hts hK hR kX9 (z_40 b) (j := 1) (by decide) fl_X9_50 (v := .ref (eB E + 1)) rfl dX9_fillWays_6 ?_
    refine x_get hx hb hown hts hK hR kX8 (z_1 b) (j := 8) (by decide) fl_X9_68 (v := .int (M.1 1 8)) rfl dX9_fillWays_9 ?_
    refine lv_icmp_ge (tgt := 35) hx hb dX9_fillWays_12 (by decide) (fun q12 => ?_) (fun q12 => ?_)
    · have hf := (br_if hf).1 q12
      exact hk35 hf hR (lv_sub hl [] rfl)
    · have hf := (br_if hf).2 q12
      refine lv_aload hx hb dX9_fillWays_15 (lv_at hl 4 rfl) ?_
      refine lv_iload hx hb dX9_fillWays_17 (lv_at hl 5 rfl) ?_
      refine lv_aload_n hx hb dX9_fillWays_19 rfl (lv_at hl 0 rfl) ?_
      refine lv_iload_n hx hb dX9_fillWays_20 rfl (lv_at hl 1 rfl) ?_
      refine lv_iload_n hx hb dX9_fillWays_21 rfl (lv_at hl 2 rfl) ?_
      refine lv_iload_n hx hb dX9_fillWays_22 rfl (lv_at hl 3 rfl) ?_
      refine lv_iload hx hb dX9_fillWays_23 (lv_at hl 5 rfl) ?_
      obtain ⟨q25, c25, hf⟩ := br_b hf
      refine x_callV (k := 40) (As := [.int x1, .int x2, .int x3, .int x5]) (rest := [.int x5, .ref (eB E + 42)]) (st1 := [.int q25, .int x5, .ref (eB E + 42)]) X hR (ctX9_wayFrom c25) ml_X9_88 im_X9_wayFrom se_X9_wayFrom in_X9 co_X9_wayFrom yo_X9_wayFrom rfl kX9 (z_40 b) (rm_ok (by decide) (by decide)) rfl hl.1 rfl rfl (Nat.le_of_ble_eq_true rfl) dX9_fillWays_25 ⟨Nat.zero_le _, Nat.zero_le _⟩ (fun H locs hR => ?_)
      obtain ⟨g28, hf⟩ := br_g hf
      refine x_iast hx hb hK hR (z_42 b) g28 dX9_fillWays_28 (fun H locs hR => ?_)
      obtain ⟨M28, e28⟩ : ∃ y : Mem, y = (sI M 42 (ix x5) q25) := ⟨_, rfl⟩
      have hf := nx_at e28 hf
      have hR : Rl E (sh_ b) (nn b) s.heap M28 H locs := by rw [e28]; exact hR
      obtain ⟨v29, e29⟩ : ∃ y : Int32, y = (x5 + (1 : Int32)) := ⟨_, rfl⟩
      have hf := nx_at e29 hf
      refine lv_iinc (v := v29) (lv' := [(5, .int v29), (0, .ref (eB E + 40)), (1, .int x1), (2, .int x2), (3, .int x3), (4, .ref (eB E + 42))]) hx hb dX9_fillWays_29 hl (k := 5) rfl (by rw [e29]; rfl) (by decide) rfl (fun ls hl => ?_)
      refine lv_goto (tgt := 3) hx hb dX9_fillWays_32 (by decide) ?_
      exact ih hf hR (lv_sub hl [1, 2, 3, 4, 5, 0] rfl)
set_option maxHeartbeats 4000000 in
set_option maxRecDepth 100000 in
theorem wX9_fillWays_42_35 {M1 : Mem} (X : CX E p s m args c meth cX9_fillWays 6 none RX9) : ∀ {M : Mem} {H : Heap} {locs : List Loc} {ls : Array Slot}, fX9_fillWays_42_35 M = some M1 → Rl E (sh_ b) (nn b) s.heap M H locs → lv_has ls 6 [] → W p l e (rm 4 0 0) s m args below meth c H locs 0 0 (MQ below (qq E none (sh_ b) (nn b) M1) args s 0 0 (fr E)) (F0 m 35 ls []) := by
  obtain ⟨hx, hb, hr, hml, hown, hts, hK, hN, hO, hlk, hbs⟩ := id X
  intro M H locs ls hf hR hl
  unfold fX9_fillWays_42_35 at hf
  cases hf
  exact x_vret hx hb hr hlk hR dX9_fillWays_35
set_option maxHeartbeats 4000000 in
set_option maxRecDepth 100000 in
theorem wX9_fillWays_42_0 {M1 : Mem} (X : CX E p s m args c meth cX9_fillWays 6 none RX9) : ∀ {x1 : Int32} {x2 : Int32} {x3 : Int32} {M : Mem} {H : Heap} {locs : List Loc} {ls : Array Slot}, fX9_fillWays_42 x1 x2 x3 M = some M1 → Rl E (sh_ b) (nn b) s.heap M H locs → lv_has ls 6 [(0, .ref (eB E + 40)), (1, .int x1), (2, .int x2), (3, .int x3), (4, .ref (eB E + 42))] → W p l e (rm 4 0 0) s m args below meth c H locs 0 0 (MQ below (qq E none (sh_ b) (nn b) M1) args s 0 0 (fr E)) (F0 m 0 ls []) := by
  obtain ⟨hx, hb, hr, hml, hown, hts, hK, hN, hO, hlk, hbs⟩ := id X
  intro x1 x2 x3 M H locs ls hf hR hl
  unfold fX9_fillWays_42 at hf
  refine lv_iconst (v := 0) hx hb dX9_fillWays_0 (by decide) ?_
  refine lv_istore (lv' := [(5, .int (0 : Int32)), (0, .ref (eB E + 40)), (1, .int x1), (2, .int x2), (3, .int x3), (4, .ref (eB E + 42))]) hx hb dX9_fillWays_1 hl (by decide) rfl (fun ls hl => ?_)
  exact wX9_fillWays_42_3 X (fun hf hR hl => wX9_fillWays_42_35 X hf hR hl) FU hf hR (lv_sub hl [1, 2, 3, 4, 5, 0] rfl)
theorem ctX9_fillWays_42 {l : Launch} {E : Ge} {b : Bool} {M : Mem} {x1 : Int32} {x2 : Int32} {x3 : Int32} {M1 : Mem} (h : fX9_fillWays_42 x1 x2 x3 M = some M1) : CT l E yX9_fillWays cX9_fillWays 6 none 4 0 0 [.ref (eB E + 40), .int x1, .int x2, .int x3, .ref (eB E + 42)] none (sh_ b) (nn b) M (sh_ b) (nn b) M1 := by
  refine met_of (by decide) (Nat.le_of_ble_eq_true rfl) ?_
  intro p e s m args below meth c X _ hR ls hl
  exact wX9_fillWays_42_0 X h hR hl
def fX9_fillJoining_165 (k56 : Int32 → Int32 → Int32 → Mem → Option Mem) (k188 : Mem → Option Mem) (x1 : Int32) (x2 : Int32) (x3 : Int32) (x4 : Int32) (x5 : Int32) (s1 : Int32) (s2 : Int32) (M : Mem) : Option Mem := (if inb s1 180 = true then nx (sI M 43 (ix s1) s2) (fun M165 => (if inb ((x1 * (20 : Int32)) + x3) 180 = true then nx (sI M165 44 (ix ((x1 * (20 : Int32)) + x3)) (x5 - x4)) (fun M181 => nx (x3 + (1 : Int32)) (fun v182 => k56 x1 x2 v182 M181)) else none)) else none)
def fX9_fillJoining_125 (k56 : Int32 → Int32 → Int32 → Mem → Option Mem) (k188 : Mem → Option Mem) (x1 : Int32) (x2 : Int32) (x3 : Int32) (x4 : Int32) (s0 : Int32) (M : Mem) : Option Mem := (if inb x3 20 = true then (if inb x2 20 = true then (if (M.1 41 (ix x2)) ≤ (M.1 41 (ix x3)) then fX9_fillJoining_165 k56 k188 x1 x2 x3 x4 s0 (((x1 * (20 : Int32)) + x3)) (0 : Int32) M else (if inb x1 15 = true then fX9_fillJoining_165 k56 k188 x1 x2 x3 x4 s0 (((x1 * (20 : Int32)) + x3)) ((M.1 4 (ix x1))) M else none)) else none) else none)
def fX9_fillJoining_95 (k56 : Int32 → Int32 → Int32 → Mem → Option Mem) (k188 : Mem → Option Mem) (x1 : Int32) (x2 : Int32) (x3 : Int32) (s0 : Int32) (M : Mem) : Option Mem := (if inb x2 20 = true then (if inb x3 20 = true then (if (M.1 42 (ix x3)) ≤ (M.1 42 (ix x2)) then fX9_fillJoining_125 k56 k188 x1 x2 x3 s0 (0 : Int32) M else (if inb x1 15 = true then fX9_fillJoining_125 k56 k188 x1 x2 x3 s0 ((M.1 4 (ix x1))) M else none)) else none) else none)
def fX9_fillJoining_56 (k188 : Mem → Option Mem) : Nat → Int32 → Int32 → Int32 → Mem → Option Mem
  | 0, _, _, _, _ => none
  | n + 1, x1, x2, x3, M => (if (M.1 1 8) ≤ x3 then k188 M else (if inb x2 20 = true then (if inb x3 20 = true then (if (M.1 41 (ix x3)) ≤ (M.1 41 (ix x2)) then fX9_fillJoining_95 (fX9_fillJoining_56 k188 n) k188 x1 x2 x3 (0 : Int32) M else (if inb x1 15 = true then fX9_fillJoining_95 (fX9_fillJoining_56 k188 n) k188 x1 x2 x3 ((M.1 4 (ix x1))) M else none)) else none) else none))
def fX9_fillJoining_188 (M : Mem) : Option Mem := some M
def fX9_fillJoining (x1 : Int32) (x2 : Int32) (M : Mem) : Option Mem := (if inb x1 15 = true then (if inb x1 15 = true then (fX9_fillWays_41 x1 (M.1 2 (ix x1)) (M.1 3 (ix x1)) M).bind (fun q24 => (if inb x2 20 = true then (if inb x2 20 = true then (fX9_fillWays_42 x1 (q24.1 8 (ix x2)) (q24.1 9 (ix x2)) q24).bind (fun q51 => fX9_fillJoining_56 fX9_fillJoining_188 FU x1 x2 (0 : Int32) q51) else none) else none)) else none) else none)
set_option maxHeartbeats 4000000 in
set_option maxRecDepth 100000 in
theorem wX9_fillJoining_165 {M1 : Mem} {k56 : Int32 → Int32 → Int32 → Mem → Option Mem} {k188 : Mem → Option Mem} (X : CX E p s m args c meth cX9_fillJoining 6 none RX9) (hk56 : ∀ {x1 : Int32} {x2 : Int32} {x3 : Int32} {M : Mem} {H : Heap} {locs : List Loc} {ls : Array Slot}, k56 x1 x2 x3 M = some M1 → Rl E (sh_ b) (nn b) s.heap M H locs → lv_has ls 6 [(0, .ref (eB E + 40)), (1, .int x1), (2, .int x2), (3, .int x3)] → W p l e (rm 5 0 0) s m args below meth c H locs 0 0 (MQ below (qq E none (sh_ b) (nn b) M1) args s 0 0 (fr E)) (F0 m 56 ls [])) (hk188 : ∀ {M : Mem} {H : Heap} {locs : List Loc} {ls : Array Slot}, k188 M = some M1 → Rl E (sh_ b) (nn b) s.heap M H locs → lv_has ls 6 [] → W p l e (rm 5 0 0) s m args below meth c H locs 0 0 (MQ below (qq E none (sh_ b) (nn b) M1) args s 0 0 (fr E)) (F0 m 188 ls [])) : ∀ {x1 : Int32} {x2 : Int32} {x3 : Int32} {x4 : Int32} {x5 : Int32} {s1 : Int32} {s2 : Int32} {M : Mem} {H : Heap} {locs : List Loc} {ls : Array Slot}, fX9_fillJoining_165 k56 k188 x1 x2 x3 x4 x5 s1 s2 M = some M1 → Rl E (sh_ b) (nn b) s.heap M H locs → lv_has ls 6 [(0, .ref (eB E + 40)), (1, .int x1), (2, .int x2), (3, .int x3), (4, .int x4), (5, .int x5)] → W p l e (rm 5 0 0) s m args below meth c H locs 0 0 (MQ below (qq E none (sh_ b) (nn b) M1) args s 0 0 (fr E)) (F0 m 165 ls [.int s2, .int s1, .ref (eB E + 43)]) := by
  obtain ⟨hx, hb, hr, hml, hown, hts, hK, hN, hO, hlk, hbs⟩ := id X
  intro x1 x2 x3 x4 x5 s1 s2 M H locs ls hf hR hl
  unfold fX9_fillJoining_165 at hf
  obtain ⟨g165, hf⟩ := br_g hf
  refine x_iast hx hb hK hR (z_43 b) g165 dX9_fillJoining_165 (fun H locs hR => ?_)
  obtain ⟨M165, e165⟩ : ∃ y : Mem, y = (sI M 43 (ix s1) s2) := ⟨_, rfl⟩
  have hf := nx_at e165 hf
  have hR : Rl E (sh_ b) (nn b) s.heap M165 H locs := by rw [e165]; exact hR
  refine lv_aload_n hx hb dX9_fillJoining_166 rfl (lv_at hl 0 rfl) ?_
  refine x_get hx hb hown hts hK hR kX9 (z_40 b) (j := 5) (by decide) fl_X9_21 (v := .ref (eB E + 44)) rfl dX9_fillJoining_167 ?_
  refine lv_iload_n hx hb dX9_fillJoining_170 rfl (lv_at hl 1 rfl) ?_
  refine lv_bipush (v := 20) hx hb dX9_fillJoining_171 (by decide) ?_
  refine lv_imul hx hb dX9_fillJoining_173 ?_
  refine lv_iload_n hx hb dX9_fillJoining_174 rfl (lv_at hl 3 rfl) ?_
  refine lv_iadd hx hb dX9_fillJoining_175 ?_
  refine lv_iload hx hb dX9_fillJoining_176 (lv_at hl 5 rfl) ?_
  refine lv_iload hx hb dX9_fillJoining_178 (lv_at hl 4 rfl) ?_
  refine lv_isub hx hb dX9_fillJoining_180 ?_
  obtain ⟨g181, hf⟩ := br_g hf
  refine x_iast hx hb hK hR (z_44 b) g181 dX9_fillJoining_181 (fun H locs hR => ?_)
  obtain ⟨M181, e181⟩ : ∃ y : Mem, y = (sI M165 44 (ix ((x1 * (20 : Int32)) + x3)) (x5 - x4)) := ⟨_, rfl⟩
  have hf := nx_at e181 hf
  have hR : Rl E (sh_ b) (nn b) s.heap M181 H locs := by rw [e181]; exact hR
  obtain ⟨v182, e182⟩ : ∃ y : Int32, y = (x3 + (1 : Int32)) := ⟨_, rfl⟩
  have hf := nx_at e182 hf
  refine lv_iinc (v := v182) (lv' := [(3, .int v182), (0, .ref (eB E + 40)), (1, .int x1), (2, .int x2), (4, .int x4), (5, .int x5)]) hx hb dX9_fillJoining_182 hl (k := 3) rfl (by rw [e182]; rfl) (by decide) rfl (fun ls hl => ?_)
  refine lv_goto (tgt := 56) hx hb dX9_fillJoining_185 (by decide) ?_
  exact hk56 hf hR (lv_sub hl [1, 2, 3, 0] rfl)
set_option maxHeartbeats 4000000 in
set_option maxRecDepth 100000 in
theorem wX9_fillJoining_125 {M1 : Mem} {k56 : Int32 → Int32 → Int32 → Mem → Option Mem} {k188 : Mem → Option Mem} (X : CX E p s m args c meth cX9_fillJoining 6 none RX9) (hk56 : ∀ {x1 : Int32} {x2 : Int32} {x3 : Int32} {M : Mem} {H : Heap} {locs : List Loc} {ls : Array Slot}, k56 x1 x2 x3 M = some M1 → Rl E (sh_ b) (nn b) s.heap M H locs → lv_has ls 6 [(0, .ref (eB E + 40)), (1, .int x1), (2, .int x2), (3, .int x3)] → W p l e (rm 5 0 0) s m args below meth c H locs 0 0 (MQ below (qq E none (sh_ b) (nn b) M1) args s 0 0 (fr E)) (F0 m 56 ls [])) (hk188 : ∀ {M : Mem} {H : Heap} {locs : List Loc} {ls : Array Slot}, k188 M = some M1 → Rl E (sh_ b) (nn b) s.heap M H locs → lv_has ls 6 [] → W p l e (rm 5 0 0) s m args below meth c H locs 0 0 (MQ below (qq E none (sh_ b) (nn b) M1) args s 0 0 (fr E)) (F0 m 188 ls [])) : ∀ {x1 : Int32} {x2 : Int32} {x3 : Int32} {x4 : Int32} {s0 : Int32} {M : Mem} {H : Heap} {locs : List Loc} {ls : Array Slot}, fX9_fillJoining_125 k56 k188 x1 x2 x3 x4 s0 M = some M1 → Rl E (sh_ b) (nn b) s.heap M H locs → lv_has ls 6 [(0, .ref (eB E + 40)), (1, .int x1), (2, .int x2), (3, .int x3), (4, .int x4)] → W p l e (rm 5 0 0) s m args below meth c H locs 0 0 (MQ below (qq E none (sh_ b) (nn b) M1) args s 0 0 (fr E)) (F0 m 125 ls [.int s0]) := by
  obtain ⟨hx, hb, hr, hml, hown, hts, hK, hN, hO, hlk, hbs⟩ := id X
  intro x1 x2 x3 x4 s0 M H locs ls hf hR hl
  unfold fX9_fillJoining_125 at hf
  refine lv_istore (lv' := [(5, .int s0), (0, .ref (eB E + 40)), (1, .int x1), (2, .int x2), (3, .int x3), (4, .int x4)]) hx hb dX9_fillJoining_125 hl (by decide) rfl (fun ls hl => ?_)
  refine lv_aload_n hx hb dX9_fillJoining_127 rfl (lv_at hl 1 rfl) ?_
  refine x_get hx hb hown hts hK hR kX9 (z_40 b) (j := 4) (by decide) fl_X9_18 (v := .ref (eB E + 43)) rfl dX9_fillJoining_128 ?_
  refine lv_iload_n hx hb dX9_fillJoining_131 rfl (lv_at hl 2 rfl) ?_
  refine lv_bipush (v := 20) hx hb dX9_fillJoining_132 (by decide) ?_
  refine lv_imul hx hb dX9_fillJoining_134 ?_
  refine lv_iload_n hx hb dX9_fillJoining_135 rfl (lv_at hl 4 rfl) ?_
  refine lv_iadd hx hb dX9_fillJoining_136 ?_
  refine lv_aload_n hx hb dX9_fillJoining_137 rfl (lv_at hl 1 rfl) ?_
  refine x_get hx hb hown hts hK hR kX9 (z_40 b) (j := 2) (by decide) fl_X9_9 (v := .ref (eB E + 41)) rfl dX9_fillJoining_138 ?_
  refine lv_iload_n hx hb dX9_fillJoining_141 rfl (lv_at hl 4 rfl) ?_
  obtain ⟨g142, hf⟩ := br_g hf
  refine x_iald hx hb hK hR (z_41 b) g142 dX9_fillJoining_142 ?_
  refine lv_aload_n hx hb dX9_fillJoining_143 rfl (lv_at hl 1 rfl) ?_
  refine x_get hx hb hown hts hK hR kX9 (z_40 b) (j := 2) (by decide) fl_X9_9 (v := .ref (eB E + 41)) rfl dX9_fillJoining_144 ?_
  refine lv_iload_n hx hb dX9_fillJoining_147 rfl (lv_at hl 3 rfl) ?_
  obtain ⟨g148, hf⟩ := br_g hf
  refine x_iald hx hb hK hR (z_41 b) g148 dX9_fillJoining_148 ?_
  refine lv_icmp_ge (tgt := 164) hx hb dX9_fillJoining_149 (by decide) (fun q149 => ?_) (fun q149 => ?_)
  · have hf := (br_if hf).1 q149
    refine lv_iconst (v := 0) hx hb dX9_fillJoining_164 (by decide) ?_
    exact wX9_fillJoining_165 X (fun hf hR hl => hk56 hf hR hl) (fun hf hR hl => hk188 hf hR hl) hf hR (lv_sub hl [1, 2, 3, 4, 5, 0] rfl)
  · have hf := (br_if hf).2 q149
    refine lv_aload_n hx hb dX9_fillJoining_152 rfl (lv_at hl 1 rfl) ?_
    refine x_get hx hb hown hts hK hR kX9 (z_40 b) (j := 1) (by decide) fl_X9_50 (v := .ref (eB E + 1)) rfl dX9_fillJoining_153 ?_
    refine x_get hx hb hown hts hK hR kX8 (z_1 b) (j := 3) (by decide) fl_X9_81 (v := .ref (eB E + 4)) rfl dX9_fillJoining_156 ?_
    refine lv_iload_n hx hb dX9_fillJoining_159 rfl (lv_at hl 2 rfl) ?_
    obtain ⟨g160, hf⟩ := br_g hf
    refine x_iald hx hb hK hR (z_4 b) g160 dX9_fillJoining_160 ?_
    refine lv_goto (tgt := 165) hx hb dX9_fillJoining_161 (by decide) ?_
    exact wX9_fillJoining_165 X (fun hf hR hl => hk56 hf hR hl) (fun hf hR hl => hk188 hf hR hl) hf hR (lv_sub hl [1, 2, 3, 4, 5, 0] rfl)
set_option maxHeartbeats 4000000 in
set_option maxRecDepth 100000 in
theorem wX9_fillJoining_95 {M1 : Mem} {k56 : Int32 → Int32 → Int32 → Mem → Option Mem} {k188 : Mem → Option Mem} (X : CX E p s m args c meth cX9_fillJoining 6 none RX9) (hk56 : ∀ {x1 : Int32} {x2 : Int32} {x3 : Int32} {M : Mem} {H : Heap} {locs : List Loc} {ls : Array Slot}, k56 x1 x2 x3 M = some M1 → Rl E (sh_ b) (nn b) s.heap M H locs → lv_has ls 6 [(0, .ref (eB E + 40)), (1, .int x1), (2, .int x2), (3, .int x3)] → W p l e (rm 5 0 0) s m args below meth c H locs 0 0 (MQ below (qq E none (sh_ b) (nn b) M1) args s 0 0 (fr E)) (F0 m 56 ls [])) (hk188 : ∀ {M : Mem} {H : Heap} {locs : List Loc} {ls : Array Slot}, k188 M = some M1 → Rl E (sh_ b) (nn b) s.heap M H locs → lv_has ls 6 [] → W p l e (rm 5 0 0) s m args below meth c H locs 0 0 (MQ below (qq E none (sh_ b) (nn b) M1) args s 0 0 (fr E)) (F0 m 188 ls [])) : ∀ {x1 : Int32} {x2 : Int32} {x3 : Int32} {s0 : Int32} {M : Mem} {H : Heap} {locs : List Loc} {ls : Array Slot}, fX9_fillJoining_95 k56 k188 x1 x2 x3 s0 M = some M1 → Rl E (sh_ b) (nn b) s.heap M H locs → lv_has ls 6 [(0, .ref (eB E + 40)), (1, .int x1), (2, .int x2), (3, .int x3)] → W p l e (rm 5 0 0) s m args below meth c H locs 0 0 (MQ below (qq E none (sh_ b) (nn b) M1) args s 0 0 (fr E)) (F0 m 95 ls [.int s0]) := by
  obtain ⟨hx, hb, hr, hml, hown, hts, hK, hN, hO, hlk, hbs⟩ := id X
  intro x1 x2 x3 s0 M H locs ls hf hR hl
  unfold fX9_fillJoining_95 at hf
  refine lv_istore (lv' := [(4, .int s0), (0, .ref (eB E + 40)), (1, .int x1), (2, .int x2), (3, .int x3)]) hx hb dX9_fillJoining_95 hl (by decide) rfl (fun ls hl => ?_)
  refine lv_aload_n hx hb dX9_fillJoining_97 rfl (lv_at hl 1 rfl) ?_
  refine x_get hx hb hown hts hK hR kX9 (z_40 b) (j := 3) (by decide) fl_X9_15 (v := .ref (eB E + 42)) rfl dX9_fillJoining_98 ?_
  refine lv_iload_n hx hb dX9_fillJoining_101 rfl (lv_at hl 3 rfl) ?_
  obtain ⟨g102, hf⟩ := br_g hf
  refine x_iald hx hb hK hR (z_42 b) g102 dX9_fillJoining_102 ?_
  refine lv_aload_n hx hb dX9_fillJoining_103 rfl (lv_at hl 1 rfl) ?_
  refine x_get hx hb hown hts hK hR kX9 (z_40 b) (j := 3) (by decide) fl_X9_15 (v := .ref (eB E + 42)) rfl dX9_fillJoining_104 ?_
  refine lv_iload_n hx hb dX9_fillJoining_107 rfl (lv_at hl 4 rfl) ?_
  obtain ⟨g108, hf⟩ := br_g hf
  refine x_iald hx hb hK hR (z_42 b) g108 dX9_fillJoining_108 ?_
  refine lv_icmp_ge (tgt := 124) hx hb dX9_fillJoining_109 (by decide) (fun q109 => ?_) (fun q109 => ?_)
  · have hf := (br_if hf).1 q109
    refine lv_iconst (v := 0) hx hb dX9_fillJoining_124 (by decide) ?_
    exact wX9_fillJoining_125 X (fun hf hR hl => hk56 hf hR hl) (fun hf hR hl => hk188 hf hR hl) hf hR (lv_sub hl [1, 2, 3, 4, 0] rfl)
  · have hf := (br_if hf).2 q109
    refine lv_aload_n hx hb dX9_fillJoining_112 rfl (lv_at hl 1 rfl) ?_
    refine x_get hx hb hown hts hK hR kX9 (z_40 b) (j := 1) (by decide) fl_X9_50 (v := .ref (eB E + 1)) rfl dX9_fillJoining_113 ?_
    refine x_get hx hb hown hts hK hR kX8 (z_1 b) (j := 3) (by decide) fl_X9_81 (v := .ref (eB E + 4)) rfl dX9_fillJoining_116 ?_
    refine lv_iload_n hx hb dX9_fillJoining_119 rfl (lv_at hl 2 rfl) ?_
    obtain ⟨g120, hf⟩ := br_g hf
    refine x_iald hx hb hK hR (z_4 b) g120 dX9_fillJoining_120 ?_
    refine lv_goto (tgt := 125) hx hb dX9_fillJoining_121 (by decide) ?_
    exact wX9_fillJoining_125 X (fun hf hR hl => hk56 hf hR hl) (fun hf hR hl => hk188 hf hR hl) hf hR (lv_sub hl [1, 2, 3, 4, 0] rfl)
set_option maxHeartbeats 4000000 in
set_option maxRecDepth 100000 in
theorem wX9_fillJoining_56 {M1 : Mem} {k188 : Mem → Option Mem} (X : CX E p s m args c meth cX9_fillJoining 6 none RX9) (hk188 : ∀ {M : Mem} {H : Heap} {locs : List Loc} {ls : Array Slot}, k188 M = some M1 → Rl E (sh_ b) (nn b) s.heap M H locs → lv_has ls 6 [] → W p l e (rm 5 0 0) s m args below meth c H locs 0 0 (MQ below (qq E none (sh_ b) (nn b) M1) args s 0 0 (fr E)) (F0 m 188 ls [])) : ∀ (n : Nat) {x1 : Int32} {x2 : Int32} {x3 : Int32} {M : Mem} {H : Heap} {locs : List Loc} {ls : Array Slot}, fX9_fillJoining_56 k188 n x1 x2 x3 M = some M1 → Rl E (sh_ b) (nn b) s.heap M H locs → lv_has ls 6 [(0, .ref (eB E + 40)), (1, .int x1), (2, .int x2), (3, .int x3)] → W p l e (rm 5 0 0) s m args below meth c H locs 0 0 (MQ below (qq E none (sh_ b) (nn b) M1) args s 0 0 (fr E)) (F0 m 56 ls []) := by
  obtain ⟨hx, hb, hr, hml, hown, hts, hK, hN, hO, hlk, hbs⟩ := id X
  intro n
  induction n with
  | zero =>
    intro x1 x2 x3 M H locs ls hf hR hl
    exact absurd (show none = some _ from hf) (fun h => by cases h)
  | succ n ih =>
    intro x1 x2 x3 M H locs ls hf hR hl
    rw [fX9_fillJoining_56] at hf
    refine lv_iload_n hx hb dX9_fillJoining_56 rfl (lv_at hl 3 rfl) ?_
    refine lv_aload_n hx hb dX9_fillJoining_57 rfl (lv_at hl 0 rfl) ?_
    refine x_get hx hb hown hts hK hR kX9 (z_40 b) (j := 1) (by decide) fl_X9_50 (v := .ref (eB E + 1)) rfl dX9_fillJoining_58 ?_
    refine x_get hx hb hown hts hK hR kX8 (z_1 b) (j := 8) (by decide) fl_X9_68 (v := .int (M.1 1 8)) rfl dX9_fillJoining_61 ?_
    refine lv_icmp_ge (tgt := 188) hx hb dX9_fillJoining_64 (by decide) (fun q64 => ?_) (fun q64 => ?_)
    · have hf := (br_if hf).1 q64
      exact hk188 hf hR (lv_sub hl [] rfl)
    · have hf := (br_if hf).2 q64
      refine lv_aload_n hx hb dX9_fillJoining_67 rfl (lv_at hl 0 rfl) ?_
      refine x_get hx hb hown hts hK hR kX9 (z_40 b) (j := 2) (by decide) fl_X9_9 (v := .ref (eB E + 41)) rfl dX9_fillJoining_68 ?_
      refine lv_iload_n hx hb dX9_fillJoining_71 rfl (lv_at hl 2 rfl) ?_
      obtain ⟨g72, hf⟩ := br_g hf
      refine x_iald hx hb hK hR (z_41 b) g72 dX9_fillJoining_72 ?_
      refine lv_aload_n hx hb dX9_fillJoining_73 rfl (lv_at hl 0 rfl) ?_
      refine x_get hx hb hown hts hK hR kX9 (z_40 b) (j := 2) (by decide) fl_X9_9 (v := .ref (eB E + 41)) rfl dX9_fillJoining_74 ?_
      refine lv_iload_n hx hb dX9_fillJoining_77 rfl (lv_at hl 3 rfl) ?_
      obtain ⟨g78, hf⟩ := br_g hf
      refine x_iald hx hb hK hR (z_41 b) g78 dX9_fillJoining_78 ?_
      refine lv_icmp_ge (tgt := 94) hx hb dX9_fillJoining_79 (by decide) (fun q79 => ?_) (fun q79 => ?_)
      · have hf := (br_if hf).1 q79
        refine lv_iconst (v := 0) hx hb dX9_fillJoining_94 (by decide) ?_
        exact wX9_fillJoining_95 X (fun hf hR hl => ih hf hR hl) (fun hf hR hl => hk188 hf hR hl) hf hR hl
      · have hf := (br_if hf).2 q79
        refine lv_aload_n hx hb dX9_fillJoining_82 rfl (lv_at hl 0 rfl) ?_
        refine x_get hx hb hown hts hK hR kX9 (z_40 b) (j := 1) (by decide) fl_X9_50 (v := .ref (eB E + 1)) rfl dX9_fillJoining_83 ?_
        refine x_get hx hb hown hts hK hR kX8 (z_1 b) (j := 3) (by decide) fl_X9_81 (v := .ref (eB E + 4)) rfl dX9_fillJoining_86 ?_
        refine lv_iload_n hx hb dX9_fillJoining_89 rfl (lv_at hl 1 rfl) ?_
        obtain ⟨g90, hf⟩ := br_g hf
        refine x_iald hx hb hK hR (z_4 b) g90 dX9_fillJoining_90 ?_
        refine lv_goto (tgt := 95) hx hb dX9_fillJoining_91 (by decide) ?_
        exact wX9_fillJoining_95 X (fun hf hR hl => ih hf hR hl) (fun hf hR hl => hk188 hf hR hl) hf hR hl
set_option maxHeartbeats 4000000 in
set_option maxRecDepth 100000 in
theorem wX9_fillJoining_188 {M1 : Mem} (X : CX E p s m args c meth cX9_fillJoining 6 none RX9) : ∀ {M : Mem} {H : Heap} {locs : List Loc} {ls : Array Slot}, fX9_fillJoining_188 M = some M1 → Rl E (sh_ b) (nn b) s.heap M H locs → lv_has ls 6 [] → W p l e (rm 5 0 0) s m args below meth c H locs 0 0 (MQ below (qq E none (sh_ b) (nn b) M1) args s 0 0 (fr E)) (F0 m 188 ls []) := by
  obtain ⟨hx, hb, hr, hml, hown, hts, hK, hN, hO, hlk, hbs⟩ := id X
  intro M H locs ls hf hR hl
  unfold fX9_fillJoining_188 at hf
  cases hf
  exact x_vret hx hb hr hlk hR dX9_fillJoining_188
set_option maxHeartbeats 4000000 in
set_option maxRecDepth 100000 in
theorem wX9_fillJoining_0 {M1 : Mem} (X : CX E p s m args c meth cX9_fillJoining 6 none RX9) : ∀ {x1 : Int32} {x2 : Int32} {M : Mem} {H : Heap} {locs : List Loc} {ls : Array Slot}, fX9_fillJoining x1 x2 M = some M1 → Rl E (sh_ b) (nn b) s.heap M H locs → lv_has ls 6 [(0, .ref (eB E + 40)), (1, .int x1), (2, .int x2)] → W p l e (rm 5 0 0) s m args below meth c H locs 0 0 (MQ below (qq E none (sh_ b) (nn b) M1) args s 0 0 (fr E)) (F0 m 0 ls []) := by
  obtain ⟨hx, hb, hr, hml, hown, hts, hK, hN, hO, hlk, hbs⟩ := id X
  intro x1 x2 M H locs ls hf hR hl
  unfold fX9_fillJoining at hf
  refine lv_aload_n hx hb dX9_fillJoining_0 rfl (lv_at hl 0 rfl) ?_
  refine lv_iload_n hx hb dX9_fillJoining_1 rfl (lv_at hl 1 rfl) ?_
  refine lv_aload_n hx hb dX9_fillJoining_2 rfl (lv_at hl 0 rfl) ?_
  refine x_get hx hb hown hts hK hR kX9 (z_40 b) (j := 1) (by decide) fl_X9_50 (v := .ref (eB E + 1)) rfl dX9_fillJoining_3 ?_
  refine x_get hx hb hown hts hK hR kX8 (z_1 b) (j := 1) (by decide) fl_X9_58 (v := .ref (eB E + 2)) rfl dX9_fillJoining_6 ?_
  refine lv_iload_n hx hb dX9_fillJoining_9 rfl (lv_at hl 1 rfl) ?_
  obtain ⟨g10, hf⟩ := br_g hf
  refine x_iald hx hb hK hR (z_2 b) g10 dX9_fillJoining_10 ?_
  refine lv_aload_n hx hb dX9_fillJoining_11 rfl (lv_at hl 0 rfl) ?_
  refine x_get hx hb hown hts hK hR kX9 (z_40 b) (j := 1) (by decide) fl_X9_50 (v := .ref (eB E + 1)) rfl dX9_fillJoining_12 ?_
  refine x_get hx hb hown hts hK hR kX8 (z_1 b) (j := 2) (by decide) fl_X9_61 (v := .ref (eB E + 3)) rfl dX9_fillJoining_15 ?_
  refine lv_iload_n hx hb dX9_fillJoining_18 rfl (lv_at hl 1 rfl) ?_
  obtain ⟨g19, hf⟩ := br_g hf
  refine x_iald hx hb hK hR (z_3 b) g19 dX9_fillJoining_19 ?_
  refine lv_aload_n hx hb dX9_fillJoining_20 rfl (lv_at hl 0 rfl) ?_
  refine x_get hx hb hown hts hK hR kX9 (z_40 b) (j := 2) (by decide) fl_X9_9 (v := .ref (eB E + 41)) rfl dX9_fillJoining_21 ?_
  obtain ⟨q24, c24, hf⟩ := br_b hf
  refine x_callV (k := 40) (As := [.int x1, .int (M.1 2 (ix x1)), .int (M.1 3 (ix x1)), .ref (eB E + 41)]) (rest := []) (st1 := []) X hR (ctX9_fillWays_41 c24) ml_X9_64 im_X9_fillWays se_X9_fillWays in_X9 co_X9_fillWays yo_X9_fillWays rfl kX9 (z_40 b) (rm_ok (by decide) (by decide)) rfl hl.1 rfl rfl (Nat.le_of_ble_eq_true rfl) dX9_fillJoining_24 ⟨Nat.zero_le _, Nat.zero_le _⟩ (fun H locs hR => ?_)
  refine lv_aload_n hx hb dX9_fillJoining_27 rfl (lv_at hl 0 rfl) ?_
  refine lv_iload_n hx hb dX9_fillJoining_28 rfl (lv_at hl 1 rfl) ?_
  refine lv_aload_n hx hb dX9_fillJoining_29 rfl (lv_at hl 0 rfl) ?_
  refine x_get hx hb hown hts hK hR kX9 (z_40 b) (j := 1) (by decide) fl_X9_50 (v := .ref (eB E + 1)) rfl dX9_fillJoining_30 ?_
  refine x_get hx hb hown hts hK hR kX8 (z_1 b) (j := 9) (by decide) fl_X9_75 (v := .ref (eB E + 8)) rfl dX9_fillJoining_33 ?_
  refine lv_iload_n hx hb dX9_fillJoining_36 rfl (lv_at hl 2 rfl) ?_
  obtain ⟨g37, hf⟩ := br_g hf
  refine x_iald hx hb hK hR (z_8 b) g37 dX9_fillJoining_37 ?_
  refine lv_aload_n hx hb dX9_fillJoining_38 rfl (lv_at hl 0 rfl) ?_
  refine x_get hx hb hown hts hK hR kX9 (z_40 b) (j := 1) (by decide) fl_X9_50 (v := .ref (eB E + 1)) rfl dX9_fillJoining_39 ?_
  refine x_get hx hb hown hts hK hR kX8 (z_1 b) (j := 10) (by decide) fl_X9_78 (v := .ref (eB E + 9)) rfl dX9_fillJoining_42 ?_
  refine lv_iload_n hx hb dX9_fillJoining_45 rfl (lv_at hl 2 rfl) ?_
  obtain ⟨g46, hf⟩ := br_g hf
  refine x_iald hx hb hK hR (z_9 b) g46 dX9_fillJoining_46 ?_
  refine lv_aload_n hx hb dX9_fillJoining_47 rfl (lv_at hl 0 rfl) ?_
  refine x_get hx hb hown hts hK hR kX9 (z_40 b) (j := 3) (by decide) fl_X9_15 (v := .ref (eB E + 42)) rfl dX9_fillJoining_48 ?_
  obtain ⟨q51, c51, hf⟩ := br_b hf
  refine x_callV (k := 40) (As := [.int x1, .int (q24.1 8 (ix x2)), .int (q24.1 9 (ix x2)), .ref (eB E + 42)]) (rest := []) (st1 := []) X hR (ctX9_fillWays_42 c51) ml_X9_64 im_X9_fillWays se_X9_fillWays in_X9 co_X9_fillWays yo_X9_fillWays rfl kX9 (z_40 b) (rm_ok (by decide) (by decide)) rfl hl.1 rfl rfl (Nat.le_of_ble_eq_true rfl) dX9_fillJoining_51 ⟨Nat.zero_le _, Nat.zero_le _⟩ (fun H locs hR => ?_)
  refine lv_iconst (v := 0) hx hb dX9_fillJoining_54 (by decide) ?_
  refine lv_istore_n (lv' := [(3, .int (0 : Int32)), (0, .ref (eB E + 40)), (1, .int x1), (2, .int x2)]) hx hb dX9_fillJoining_55 rfl hl (by decide) rfl (fun ls hl => ?_)
  exact wX9_fillJoining_56 X (fun hf hR hl => wX9_fillJoining_188 X hf hR hl) FU hf hR (lv_sub hl [1, 2, 3, 0] rfl)
theorem ctX9_fillJoining {l : Launch} {E : Ge} {b : Bool} {M : Mem} {x1 : Int32} {x2 : Int32} {M1 : Mem} (h : fX9_fillJoining x1 x2 M = some M1) : CT l E yX9_fillJoining cX9_fillJoining 6 none 5 0 0 [.ref (eB E + 40), .int x1, .int x2] none (sh_ b) (nn b) M (sh_ b) (nn b) M1 := by
  refine met_of (by decide) (Nat.le_of_ble_eq_true rfl) ?_
  intro p e s m args below meth c X _ hR ls hl
  exact wX9_fillJoining_0 X h hR hl
def fX9_standsJoined_94 (M : Mem) (k42 : Int32 → Int32 → Int32 → Int32 → Int32 → Int32 → Int32 → Option Int32) (k100 : Int32 → Int32 → Int32 → Int32 → Int32 → Int32 → Option Int32) (x1 : Int32) (x2 : Int32) (x3 : Int32) (x4 : Int32) (x5 : Int32) (x6 : Int32) (x7 : Int32) : Option Int32 := nx (x7 + (1 : Int32)) (fun v94 => k42 x1 x2 x3 x4 x5 x6 v94)
def fX9_standsJoined_42 (M : Mem) (k100 : Int32 → Int32 → Int32 → Int32 → Int32 → Int32 → Option Int32) : Nat → Int32 → Int32 → Int32 → Int32 → Int32 → Int32 → Int32 → Option Int32
  | 0, _, _, _, _, _, _, _ => none
  | n + 1, x1, x2, x3, x4, x5, x6, x7 => (if x3 ≤ x7 then k100 x1 x2 x3 x4 x5 x6 else (if ((x2 >>> (x7 &&& 31)) &&& (1 : Int32)) = (1 : Int32) then (if inb ((x7 * (20 : Int32)) + x4) 180 = true then nx (x5 - (M.1 43 (ix ((x7 * (20 : Int32)) + x4)))) (fun v74 => (if inb ((x7 * (20 : Int32)) + x4) 180 = true then nx (x6 + (M.1 44 (ix ((x7 * (20 : Int32)) + x4)))) (fun v92 => fX9_standsJoined_94 M (fX9_standsJoined_42 M k100 n) k100 x1 x2 x3 x4 v74 v92 x7) else none)) else none) else fX9_standsJoined_94 M (fX9_standsJoined_42 M k100 n) k100 x1 x2 x3 x4 x5 x6 x7))
def fX9_standsJoined_122 (M : Mem) (k3 : Int32 → Int32 → Int32 → Int32 → Option Int32) (k120 : Option Int32) (k128 : Option Int32) (x1 : Int32) (x2 : Int32) (x3 : Int32) (x4 : Int32) : Option Int32 := nx (x4 + (1 : Int32)) (fun v122 => k3 x1 x2 x3 v122)
def fX9_standsJoined_100 (M : Mem) (k3 : Int32 → Int32 → Int32 → Int32 → Option Int32) (k120 : Option Int32) (k128 : Option Int32) (x1 : Int32) (x2 : Int32) (x3 : Int32) (x4 : Int32) (x5 : Int32) (x6 : Int32) : Option Int32 := (if x4 = x1 then fX9_standsJoined_122 M k3 k120 k128 x1 x2 x3 x4 else (fX8_isEnough_t M x5 x6).bind (fun q114 => (if q114 = 0 then fX9_standsJoined_122 M k3 k120 k128 x1 x2 x3 x4 else k120)))
def fX9_standsJoined_3 (M : Mem) (k120 : Option Int32) (k128 : Option Int32) : Nat → Int32 → Int32 → Int32 → Int32 → Option Int32
  | 0, _, _, _, _ => none
  | n + 1, x1, x2, x3, x4 => (if (M.1 1 8) ≤ x4 then k128 else (fX0_forOf M x4 x1).bind (fun q22 => (fX0_forOf M x1 x4).bind (fun q34 => fX9_standsJoined_42 M (fX9_standsJoined_100 M (fX9_standsJoined_3 M k120 k128 n) k120 k128) FU x1 x2 x3 x4 q22 q34 (0 : Int32))))
def fX9_standsJoined_120 (M : Mem) : Option Int32 := some (0 : Int32)
def fX9_standsJoined_128 (M : Mem) : Option Int32 := some (1 : Int32)
def fX9_standsJoined (M : Mem) (x1 : Int32) (x2 : Int32) (x3 : Int32) : Option Int32 := fX9_standsJoined_3 M (fX9_standsJoined_120 M) (fX9_standsJoined_128 M) FU x1 x2 x3 (0 : Int32)
set_option maxHeartbeats 4000000 in
set_option maxRecDepth 100000 in
theorem wX9_standsJoined_94 {r : Int32} {M : Mem} {k42 : Int32 → Int32 → Int32 → Int32 → Int32 → Int32 → Int32 → Option Int32} {k100 : Int32 → Int32 → Int32 → Int32 → Int32 → Int32 → Option Int32} (X : CX E p s m args c meth cX9_standsJoined 8 (some .boolean) RX9) (hk42 : ∀ {x1 : Int32} {x2 : Int32} {x3 : Int32} {x4 : Int32} {x5 : Int32} {x6 : Int32} {x7 : Int32} {H : Heap} {locs : List Loc} {ls : Array Slot}, k42 x1 x2 x3 x4 x5 x6 x7 = some r → Rl E (sh_ b) (nn b) s.heap M H locs → lv_has ls 8 [(0, .ref (eB E + 40)), (1, .int x1), (2, .int x2), (3, .int x3), (4, .int x4), (5, .int x5), (6, .int x6), (7, .int x7)] → W p l e (rm 2 0 0) s m args below meth c H locs 0 0 (MQ below (qq E (some (.int r)) (sh_ b) (nn b) M) args s 0 0 (fr E)) (F0 m 42 ls [])) (hk100 : ∀ {x1 : Int32} {x2 : Int32} {x3 : Int32} {x4 : Int32} {x5 : Int32} {x6 : Int32} {H : Heap} {locs : List Loc} {ls : Array Slot}, k100 x1 x2 x3 x4 x5 x6 = some r → Rl E (sh_ b) (nn b) s.heap M H locs → lv_has ls 8 [(0, .ref (eB E + 40)), (1, .int x1), (2, .int x2), (3, .int x3), (4, .int x4), (5, .int x5), (6, .int x6)] → W p l e (rm 2 0 0) s m args below meth c H locs 0 0 (MQ below (qq E (some (.int r)) (sh_ b) (nn b) M) args s 0 0 (fr E)) (F0 m 100 ls [])) : ∀ {x1 : Int32} {x2 : Int32} {x3 : Int32} {x4 : Int32} {x5 : Int32} {x6 : Int32} {x7 : Int32} {H : Heap} {locs : List Loc} {ls : Array Slot}, fX9_standsJoined_94 M k42 k100 x1 x2 x3 x4 x5 x6 x7 = some r → Rl E (sh_ b) (nn b) s.heap M H locs → lv_has ls 8 [(0, .ref (eB E + 40)), (1, .int x1), (2, .int x2), (3, .int x3), (4, .int x4), (5, .int x5), (6, .int x6), (7, .int x7)] → W p l e (rm 2 0 0) s m args below meth c H locs 0 0 (MQ below (qq E (some (.int r)) (sh_ b) (nn b) M) args s 0 0 (fr E)) (F0 m 94 ls []) := by
  obtain ⟨hx, hb, hr, hml, hown, hts, hK, hN, hO, hlk, hbs⟩ := id X
  intro x1 x2 x3 x4 x5 x6 x7 H locs ls hf hR hl
  unfold fX9_standsJoined_94 at hf
  obtain ⟨v94, e94⟩ : ∃ y : Int32, y = (x7 + (1 : Int32)) := ⟨_, rfl⟩
  have hf := nx_at e94 hf
  refine lv_iinc (v := v94) (lv' := [(7, .int v94), (0, .ref (eB E + 40)), (1, .int x1), (2, .int x2), (3, .int x3), (4, .int x4), (5, .int x5), (6, .int x6)]) hx hb dX9_standsJoined_94 hl (k := 7) rfl (by rw [e94]; rfl) (by decide) rfl (fun ls hl => ?_)
  refine lv_goto (tgt := 42) hx hb dX9_standsJoined_97 (by decide) ?_
  exact hk42 hf hR (lv_sub hl [1, 2, 3, 4, 5, 6, 7, 0] rfl)
set_option maxHeartbeats 4000000 in
set_option maxRecDepth 100000 in
theorem wX9_standsJoined_42 {r : Int32} {M : Mem} {k100 : Int32 → Int32 → Int32 → Int32 → Int32 → Int32 → Option Int32} (X : CX E p s m args c meth cX9_standsJoined 8 (some .boolean) RX9) (hk100 : ∀ {x1 : Int32} {x2 : Int32} {x3 : Int32} {x4 : Int32} {x5 : Int32} {x6 : Int32} {H : Heap} {locs : List Loc} {ls : Array Slot}, k100 x1 x2 x3 x4 x5 x6 = some r → Rl E (sh_ b) (nn b) s.heap M H locs → lv_has ls 8 [(0, .ref (eB E + 40)), (1, .int x1), (2, .int x2), (3, .int x3), (4, .int x4), (5, .int x5), (6, .int x6)] → W p l e (rm 2 0 0) s m args below meth c H locs 0 0 (MQ below (qq E (some (.int r)) (sh_ b) (nn b) M) args s 0 0 (fr E)) (F0 m 100 ls [])) : ∀ (n : Nat) {x1 : Int32} {x2 : Int32} {x3 : Int32} {x4 : Int32} {x5 : Int32} {x6 : Int32} {x7 : Int32} {H : Heap} {locs : List Loc} {ls : Array Slot}, fX9_standsJoined_42 M k100 n x1 x2 x3 x4 x5 x6 x7 = some r → Rl E (sh_ b) (nn b) s.heap M H locs → lv_has ls 8 [(0, .ref (eB E + 40)), (1, .int x1), (2, .int x2), (3, .int x3), (4, .int x4), (5, .int x5), (6, .int x6), (7, .int x7)] → W p l e (rm 2 0 0) s m args below meth c H locs 0 0 (MQ below (qq E (some (.int r)) (sh_ b) (nn b) M) args s 0 0 (fr E)) (F0 m 42 ls []) := by
  obtain ⟨hx, hb, hr, hml, hown, hts, hK, hN, hO, hlk, hbs⟩ := id X
  intro n
  induction n with
  | zero =>
    intro x1 x2 x3 x4 x5 x6 x7 H locs ls hf hR hl
    exact absurd (show none = some _ from hf) (fun h => by cases h)
  | succ n ih =>
    intro x1 x2 x3 x4 x5 x6 x7 H locs ls hf hR hl
    rw [fX9_standsJoined_42] at hf
    refine lv_iload hx hb dX9_standsJoined_42 (lv_at hl 7 rfl) ?_
    refine lv_iload_n hx hb dX9_standsJoined_44 rfl (lv_at hl 3 rfl) ?_
    refine lv_icmp_ge (tgt := 100) hx hb dX9_standsJoined_45 (by decide) (fun q45 => ?_) (fun q45 => ?_)
    · have hf := (br_if hf).1 q45
      exact hk100 hf hR (lv_sub hl [0, 1, 2, 3, 4, 5, 6] rfl)
    · have hf := (br_if hf).2 q45
      refine lv_iload_n hx hb dX9_standsJoined_48 rfl (lv_at hl 2 rfl) ?_
      refine lv_iload hx hb dX9_standsJoined_49 (lv_at hl 7 rfl) ?_
      refine lv_ishr hx hb dX9_standsJoined_51 ?_
      refine lv_iconst (v := 1) hx hb dX9_standsJoined_52 (by decide) ?_
      refine lv_iand hx hb dX9_standsJoined_53 ?_
      refine lv_iconst (v := 1) hx hb dX9_standsJoined_54 (by decide) ?_
      refine lv_icmp_ne (tgt := 94) hx hb dX9_standsJoined_55 (by decide) (fun q55 => ?_) (fun q55 => ?_)
      · have hf := (br_if hf).2 q55
        exact wX9_standsJoined_94 X (fun hf hR hl => ih hf hR hl) (fun hf hR hl => hk100 hf hR hl) hf hR hl
      · have hf := (br_if hf).1 q55
        refine lv_iload hx hb dX9_standsJoined_58 (lv_at hl 5 rfl) ?_
        refine lv_aload_n hx hb dX9_standsJoined_60 rfl (lv_at hl 0 rfl) ?_
        refine x_get hx hb hown hts hK hR kX9 (z_40 b) (j := 4) (by decide) fl_X9_18 (v := .ref (eB E + 43)) rfl dX9_standsJoined_61 ?_
        refine lv_iload hx hb dX9_standsJoined_64 (lv_at hl 7 rfl) ?_
        refine lv_bipush (v := 20) hx hb dX9_standsJoined_66 (by decide) ?_
        refine lv_imul hx hb dX9_standsJoined_68 ?_
        refine lv_iload hx hb dX9_standsJoined_69 (lv_at hl 4 rfl) ?_
        refine lv_iadd hx hb dX9_standsJoined_71 ?_
        obtain ⟨g72, hf⟩ := br_g hf
        refine x_iald hx hb hK hR (z_43 b) g72 dX9_standsJoined_72 ?_
        refine lv_isub hx hb dX9_standsJoined_73 ?_
        refine lv_topi (fun v74 e74 => ?_)
        have hf := nx_at e74 hf
        refine lv_istore (lv' := [(5, .int v74), (0, .ref (eB E + 40)), (1, .int x1), (2, .int x2), (3, .int x3), (4, .int x4), (6, .int x6), (7, .int x7)]) hx hb dX9_standsJoined_74 hl (by decide) rfl (fun ls hl => ?_)
        refine lv_iload hx hb dX9_standsJoined_76 (lv_at hl 6 rfl) ?_
        refine lv_aload_n hx hb dX9_standsJoined_78 rfl (lv_at hl 1 rfl) ?_
        refine x_get hx hb hown hts hK hR kX9 (z_40 b) (j := 5) (by decide) fl_X9_21 (v := .ref (eB E + 44)) rfl dX9_standsJoined_79 ?_
        refine lv_iload hx hb dX9_standsJoined_82 (lv_at hl 7 rfl) ?_
        refine lv_bipush (v := 20) hx hb dX9_standsJoined_84 (by decide) ?_
        refine lv_imul hx hb dX9_standsJoined_86 ?_
        refine lv_iload hx hb dX9_standsJoined_87 (lv_at hl 5 rfl) ?_
        refine lv_iadd hx hb dX9_standsJoined_89 ?_
        obtain ⟨g90, hf⟩ := br_g hf
        refine x_iald hx hb hK hR (z_44 b) g90 dX9_standsJoined_90 ?_
        refine lv_iadd hx hb dX9_standsJoined_91 ?_
        refine lv_topi (fun v92 e92 => ?_)
        have hf := nx_at e92 hf
        refine lv_istore (lv' := [(6, .int v92), (5, .int v74), (0, .ref (eB E + 40)), (1, .int x1), (2, .int x2), (3, .int x3), (4, .int x4), (7, .int x7)]) hx hb dX9_standsJoined_92 hl (by decide) rfl (fun ls hl => ?_)
        exact wX9_standsJoined_94 X (fun hf hR hl => ih hf hR hl) (fun hf hR hl => hk100 hf hR hl) hf hR (lv_sub hl [2, 3, 4, 5, 6, 1, 0, 7] rfl)
set_option maxHeartbeats 4000000 in
set_option maxRecDepth 100000 in
theorem wX9_standsJoined_122 {r : Int32} {M : Mem} {k3 : Int32 → Int32 → Int32 → Int32 → Option Int32} {k120 : Option Int32} {k128 : Option Int32} (X : CX E p s m args c meth cX9_standsJoined 8 (some .boolean) RX9) (hk3 : ∀ {x1 : Int32} {x2 : Int32} {x3 : Int32} {x4 : Int32} {H : Heap} {locs : List Loc} {ls : Array Slot}, k3 x1 x2 x3 x4 = some r → Rl E (sh_ b) (nn b) s.heap M H locs → lv_has ls 8 [(0, .ref (eB E + 40)), (1, .int x1), (2, .int x2), (3, .int x3), (4, .int x4)] → W p l e (rm 2 0 0) s m args below meth c H locs 0 0 (MQ below (qq E (some (.int r)) (sh_ b) (nn b) M) args s 0 0 (fr E)) (F0 m 3 ls [])) (hk120 : ∀ {H : Heap} {locs : List Loc} {ls : Array Slot}, k120 = some r → Rl E (sh_ b) (nn b) s.heap M H locs → lv_has ls 8 [] → W p l e (rm 2 0 0) s m args below meth c H locs 0 0 (MQ below (qq E (some (.int r)) (sh_ b) (nn b) M) args s 0 0 (fr E)) (F0 m 120 ls [])) (hk128 : ∀ {H : Heap} {locs : List Loc} {ls : Array Slot}, k128 = some r → Rl E (sh_ b) (nn b) s.heap M H locs → lv_has ls 8 [] → W p l e (rm 2 0 0) s m args below meth c H locs 0 0 (MQ below (qq E (some (.int r)) (sh_ b) (nn b) M) args s 0 0 (fr E)) (F0 m 128 ls [])) : ∀ {x1 : Int32} {x2 : Int32} {x3 : Int32} {x4 : Int32} {H : Heap} {locs : List Loc} {ls : Array Slot}, fX9_standsJoined_122 M k3 k120 k128 x1 x2 x3 x4 = some r → Rl E (sh_ b) (nn b) s.heap M H locs → lv_has ls 8 [(0, .ref (eB E + 40)), (1, .int x1), (2, .int x2), (3, .int x3), (4, .int x4)] → W p l e (rm 2 0 0) s m args below meth c H locs 0 0 (MQ below (qq E (some (.int r)) (sh_ b) (nn b) M) args s 0 0 (fr E)) (F0 m 122 ls []) := by
  obtain ⟨hx, hb, hr, hml, hown, hts, hK, hN, hO, hlk, hbs⟩ := id X
  intro x1 x2 x3 x4 H locs ls hf hR hl
  unfold fX9_standsJoined_122 at hf
  obtain ⟨v122, e122⟩ : ∃ y : Int32, y = (x4 + (1 : Int32)) := ⟨_, rfl⟩
  have hf := nx_at e122 hf
  refine lv_iinc (v := v122) (lv' := [(4, .int v122), (0, .ref (eB E + 40)), (1, .int x1), (2, .int x2), (3, .int x3)]) hx hb dX9_standsJoined_122 hl (k := 4) rfl (by rw [e122]; rfl) (by decide) rfl (fun ls hl => ?_)
  refine lv_goto (tgt := 3) hx hb dX9_standsJoined_125 (by decide) ?_
  exact hk3 hf hR (lv_sub hl [1, 2, 3, 4, 0] rfl)
set_option maxHeartbeats 4000000 in
set_option maxRecDepth 100000 in
theorem wX9_standsJoined_100 {r : Int32} {M : Mem} {k3 : Int32 → Int32 → Int32 → Int32 → Option Int32} {k120 : Option Int32} {k128 : Option Int32} (X : CX E p s m args c meth cX9_standsJoined 8 (some .boolean) RX9) (hk3 : ∀ {x1 : Int32} {x2 : Int32} {x3 : Int32} {x4 : Int32} {H : Heap} {locs : List Loc} {ls : Array Slot}, k3 x1 x2 x3 x4 = some r → Rl E (sh_ b) (nn b) s.heap M H locs → lv_has ls 8 [(0, .ref (eB E + 40)), (1, .int x1), (2, .int x2), (3, .int x3), (4, .int x4)] → W p l e (rm 2 0 0) s m args below meth c H locs 0 0 (MQ below (qq E (some (.int r)) (sh_ b) (nn b) M) args s 0 0 (fr E)) (F0 m 3 ls [])) (hk120 : ∀ {H : Heap} {locs : List Loc} {ls : Array Slot}, k120 = some r → Rl E (sh_ b) (nn b) s.heap M H locs → lv_has ls 8 [] → W p l e (rm 2 0 0) s m args below meth c H locs 0 0 (MQ below (qq E (some (.int r)) (sh_ b) (nn b) M) args s 0 0 (fr E)) (F0 m 120 ls [])) (hk128 : ∀ {H : Heap} {locs : List Loc} {ls : Array Slot}, k128 = some r → Rl E (sh_ b) (nn b) s.heap M H locs → lv_has ls 8 [] → W p l e (rm 2 0 0) s m args below meth c H locs 0 0 (MQ below (qq E (some (.int r)) (sh_ b) (nn b) M) args s 0 0 (fr E)) (F0 m 128 ls [])) : ∀ {x1 : Int32} {x2 : Int32} {x3 : Int32} {x4 : Int32} {x5 : Int32} {x6 : Int32} {H : Heap} {locs : List Loc} {ls : Array Slot}, fX9_standsJoined_100 M k3 k120 k128 x1 x2 x3 x4 x5 x6 = some r → Rl E (sh_ b) (nn b) s.heap M H locs → lv_has ls 8 [(0, .ref (eB E + 40)), (1, .int x1), (2, .int x2), (3, .int x3), (4, .int x4), (5, .int x5), (6, .int x6)] → W p l e (rm 2 0 0) s m args below meth c H locs 0 0 (MQ below (qq E (some (.int r)) (sh_ b) (nn b) M) args s 0 0 (fr E)) (F0 m 100 ls []) := by
  obtain ⟨hx, hb, hr, hml, hown, hts, hK, hN, hO, hlk, hbs⟩ := id X
  intro x1 x2 x3 x4 x5 x6 H locs ls hf hR hl
  unfold fX9_standsJoined_100 at hf
  refine lv_iload hx hb dX9_standsJoined_100 (lv_at hl 4 rfl) ?_
  refine lv_iload_n hx hb dX9_standsJoined_102 rfl (lv_at hl 1 rfl) ?_
  refine lv_icmp_eq (tgt := 122) hx hb dX9_standsJoined_103 (by decide) (fun q103 => ?_) (fun q103 => ?_)
  · have hf := (br_if hf).1 q103
    exact wX9_standsJoined_122 X (fun hf hR hl => hk3 hf hR hl) (fun hf hR hl => hk120 hf hR hl) (fun hf hR hl => hk128 hf hR hl) hf hR (lv_sub hl [0, 1, 2, 3, 4] rfl)
  · have hf := (br_if hf).2 q103
    refine lv_aload_n hx hb dX9_standsJoined_106 rfl (lv_at hl 0 rfl) ?_
    refine x_get hx hb hown hts hK hR kX9 (z_40 b) (j := 1) (by decide) fl_X9_50 (v := .ref (eB E + 1)) rfl dX9_standsJoined_107 ?_
    refine lv_iload hx hb dX9_standsJoined_110 (lv_at hl 5 rfl) ?_
    refine lv_iload hx hb dX9_standsJoined_112 (lv_at hl 6 rfl) ?_
    obtain ⟨q114, c114, hf⟩ := br_b hf
    refine x_callV (k := 1) (As := [.int x5, .int x6]) (rest := []) (st1 := [.int q114]) X hR (ctX8_isEnough_t c114) ml_X9_105 im_X8_isEnough se_X8_isEnough in_X8 co_X8_isEnough yo_X8_isEnough rfl kX8 (z_1 b) (rm_ok (by decide) (by decide)) rfl hl.1 rfl rfl (Nat.le_of_ble_eq_true rfl) dX9_standsJoined_114 ⟨Nat.zero_le _, Nat.zero_le _⟩ (fun H locs hR => ?_)
    refine lv_if_eq (tgt := 122) hx hb dX9_standsJoined_117 (by decide) (fun q117 => ?_) (fun q117 => ?_)
    · have hf := (br_if hf).1 q117
      exact wX9_standsJoined_122 X (fun hf hR hl => hk3 hf hR hl) (fun hf hR hl => hk120 hf hR hl) (fun hf hR hl => hk128 hf hR hl) hf hR (lv_sub hl [0, 1, 2, 3, 4] rfl)
    · have hf := (br_if hf).2 q117
      exact hk120 hf hR (lv_sub hl [] rfl)
set_option maxHeartbeats 4000000 in
set_option maxRecDepth 100000 in
theorem wX9_standsJoined_3 {r : Int32} {M : Mem} {k120 : Option Int32} {k128 : Option Int32} (X : CX E p s m args c meth cX9_standsJoined 8 (some .boolean) RX9) (hk120 : ∀ {H : Heap} {locs : List Loc} {ls : Array Slot}, k120 = some r → Rl E (sh_ b) (nn b) s.heap M H locs → lv_has ls 8 [] → W p l e (rm 2 0 0) s m args below meth c H locs 0 0 (MQ below (qq E (some (.int r)) (sh_ b) (nn b) M) args s 0 0 (fr E)) (F0 m 120 ls [])) (hk128 : ∀ {H : Heap} {locs : List Loc} {ls : Array Slot}, k128 = some r → Rl E (sh_ b) (nn b) s.heap M H locs → lv_has ls 8 [] → W p l e (rm 2 0 0) s m args below meth c H locs 0 0 (MQ below (qq E (some (.int r)) (sh_ b) (nn b) M) args s 0 0 (fr E)) (F0 m 128 ls [])) : ∀ (n : Nat) {x1 : Int32} {x2 : Int32} {x3 : Int32} {x4 : Int32} {H : Heap} {locs : List Loc} {ls : Array Slot}, fX9_standsJoined_3 M k120 k128 n x1 x2 x3 x4 = some r → Rl E (sh_ b) (nn b) s.heap M H locs → lv_has ls 8 [(0, .ref (eB E + 40)), (1, .int x1), (2, .int x2), (3, .int x3), (4, .int x4)] → W p l e (rm 2 0 0) s m args below meth c H locs 0 0 (MQ below (qq E (some (.int r)) (sh_ b) (nn b) M) args s 0 0 (fr E)) (F0 m 3 ls []) := by
  obtain ⟨hx, hb, hr, hml, hown, hts, hK, hN, hO, hlk, hbs⟩ := id X
  intro n
  induction n with
  | zero =>
    intro x1 x2 x3 x4 H locs ls hf hR hl
    exact absurd (show none = some _ from hf) (fun h => by cases h)
  | succ n ih =>
    intro x1 x2 x3 x4 H locs ls hf hR hl
    rw [fX9_standsJoined_3] at hf
    refine lv_iload hx hb dX9_standsJoined_3 (lv_at hl 4 rfl) ?_
    refine lv_aload_n hx hb dX9_standsJoined_5 rfl (lv_at hl 0 rfl) ?_
    refine x_get hx hb hown hts hK hR kX9 (z_40 b) (j := 1) (by decide) fl_X9_50 (v := .ref (eB E + 1)) rfl dX9_standsJoined_6 ?_
    refine x_get hx hb hown hts hK hR kX8 (z_1 b) (j := 8) (by decide) fl_X9_68 (v := .int (M.1 1 8)) rfl dX9_standsJoined_9 ?_
    refine lv_icmp_ge (tgt := 128) hx hb dX9_standsJoined_12 (by decide) (fun q12 => ?_) (fun q12 => ?_)
    · have hf := (br_if hf).1 q12
      exact hk128 hf hR (lv_sub hl [] rfl)
    · have hf := (br_if hf).2 q12
      refine lv_aload_n hx hb dX9_standsJoined_15 rfl (lv_at hl 0 rfl) ?_
      refine x_get hx hb hown hts hK hR kX9 (z_40 b) (j := 0) (by decide) fl_X9_40 (v := .ref (eB E + 21)) rfl dX9_standsJoined_16 ?_
      refine lv_iload hx hb dX9_standsJoined_19 (lv_at hl 4 rfl) ?_
      refine lv_iload_n hx hb dX9_standsJoined_21 rfl (lv_at hl 1 rfl) ?_
      obtain ⟨q22, c22, hf⟩ := br_b hf
      refine x_callV (k := 21) (As := [.int x4, .int x1]) (rest := []) (st1 := [.int q22]) X hR (ctX0_forOf c22) ml_X9_109 im_X0_forOf se_X0_forOf in_X0 co_X0_forOf yo_X0_forOf rfl kX0 (z_21 b) (rm_ok (by decide) (by decide)) rfl hl.1 rfl rfl (Nat.le_of_ble_eq_true rfl) dX9_standsJoined_22 ⟨Nat.zero_le _, Nat.zero_le _⟩ (fun H locs hR => ?_)
      refine lv_istore (lv' := [(5, .int q22), (0, .ref (eB E + 40)), (1, .int x1), (2, .int x2), (3, .int x3), (4, .int x4)]) hx hb dX9_standsJoined_25 hl (by decide) rfl (fun ls hl => ?_)
      refine lv_aload_n hx hb dX9_standsJoined_27 rfl (lv_at hl 1 rfl) ?_
      refine x_get hx hb hown hts hK hR kX9 (z_40 b) (j := 0) (by decide) fl_X9_40 (v := .ref (eB E + 21)) rfl dX9_standsJoined_28 ?_
      refine lv_iload_n hx hb dX9_standsJoined_31 rfl (lv_at hl 2 rfl) ?_
      refine lv_iload hx hb dX9_standsJoined_32 (lv_at hl 5 rfl) ?_
      obtain ⟨q34, c34, hf⟩ := br_b hf
      refine x_callV (k := 21) (As := [.int x1, .int x4]) (rest := []) (st1 := [.int q34]) X hR (ctX0_forOf c34) ml_X9_109 im_X0_forOf se_X0_forOf in_X0 co_X0_forOf yo_X0_forOf rfl kX0 (z_21 b) (rm_ok (by decide) (by decide)) rfl hl.1 rfl rfl (Nat.le_of_ble_eq_true rfl) dX9_standsJoined_34 ⟨Nat.zero_le _, Nat.zero_le _⟩ (fun H locs hR => ?_)
      refine lv_istore (lv' := [(6, .int q34), (5, .int q22), (0, .ref (eB E + 40)), (1, .int x1), (2, .int x2), (3, .int x3), (4, .int x4)]) hx hb dX9_standsJoined_37 hl (by decide) rfl (fun ls hl => ?_)
      refine lv_iconst (v := 0) hx hb dX9_standsJoined_39 (by decide) ?_
      refine lv_istore (lv' := [(7, .int (0 : Int32)), (6, .int q34), (5, .int q22), (0, .ref (eB E + 40)), (1, .int x1), (2, .int x2), (3, .int x3), (4, .int x4)]) hx hb dX9_standsJoined_40 hl (by decide) rfl (fun ls hl => ?_)
      exact wX9_standsJoined_42 X (fun hf hR hl => wX9_standsJoined_100 X (fun hf hR hl => ih hf hR hl) (fun hf hR hl => hk120 hf hR hl) (fun hf hR hl => hk128 hf hR hl) hf hR hl) FU hf hR (lv_sub hl [3, 4, 5, 6, 7, 2, 1, 0] rfl)
set_option maxHeartbeats 4000000 in
set_option maxRecDepth 100000 in
theorem wX9_standsJoined_120 {r : Int32} {M : Mem} (X : CX E p s m args c meth cX9_standsJoined 8 (some .boolean) RX9) : ∀ {H : Heap} {locs : List Loc} {ls : Array Slot}, fX9_standsJoined_120 M = some r → Rl E (sh_ b) (nn b) s.heap M H locs → lv_has ls 8 [] → W p l e (rm 2 0 0) s m args below meth c H locs 0 0 (MQ below (qq E (some (.int r)) (sh_ b) (nn b) M) args s 0 0 (fr E)) (F0 m 120 ls []) := by
  obtain ⟨hx, hb, hr, hml, hown, hts, hK, hN, hO, hlk, hbs⟩ := id X
  intro H locs ls hf hR hl
  unfold fX9_standsJoined_120 at hf
  refine lv_iconst (v := 0) hx hb dX9_standsJoined_120 (by decide) ?_
  cases hf
  exact x_zret hx hb hr hlk hR (by decide) dX9_standsJoined_121
set_option maxHeartbeats 4000000 in
set_option maxRecDepth 100000 in
theorem wX9_standsJoined_128 {r : Int32} {M : Mem} (X : CX E p s m args c meth cX9_standsJoined 8 (some .boolean) RX9) : ∀ {H : Heap} {locs : List Loc} {ls : Array Slot}, fX9_standsJoined_128 M = some r → Rl E (sh_ b) (nn b) s.heap M H locs → lv_has ls 8 [] → W p l e (rm 2 0 0) s m args below meth c H locs 0 0 (MQ below (qq E (some (.int r)) (sh_ b) (nn b) M) args s 0 0 (fr E)) (F0 m 128 ls []) := by
  obtain ⟨hx, hb, hr, hml, hown, hts, hK, hN, hO, hlk, hbs⟩ := id X
  intro H locs ls hf hR hl
  unfold fX9_standsJoined_128 at hf
  refine lv_iconst (v := 1) hx hb dX9_standsJoined_128 (by decide) ?_
  cases hf
  exact x_zret hx hb hr hlk hR (by decide) dX9_standsJoined_129
set_option maxHeartbeats 4000000 in
set_option maxRecDepth 100000 in
theorem wX9_standsJoined_0 {r : Int32} {M : Mem} (X : CX E p s m args c meth cX9_standsJoined 8 (some .boolean) RX9) : ∀ {x1 : Int32} {x2 : Int32} {x3 : Int32} {H : Heap} {locs : List Loc} {ls : Array Slot}, fX9_standsJoined M x1 x2 x3 = some r → Rl E (sh_ b) (nn b) s.heap M H locs → lv_has ls 8 [(0, .ref (eB E + 40)), (1, .int x1), (2, .int x2), (3, .int x3)] → W p l e (rm 2 0 0) s m args below meth c H locs 0 0 (MQ below (qq E (some (.int r)) (sh_ b) (nn b) M) args s 0 0 (fr E)) (F0 m 0 ls []) := by
  obtain ⟨hx, hb, hr, hml, hown, hts, hK, hN, hO, hlk, hbs⟩ := id X
  intro x1 x2 x3 H locs ls hf hR hl
  unfold fX9_standsJoined at hf
  refine lv_iconst (v := 0) hx hb dX9_standsJoined_0 (by decide) ?_
  refine lv_istore (lv' := [(4, .int (0 : Int32)), (0, .ref (eB E + 40)), (1, .int x1), (2, .int x2), (3, .int x3)]) hx hb dX9_standsJoined_1 hl (by decide) rfl (fun ls hl => ?_)
  exact wX9_standsJoined_3 X (fun hf hR hl => wX9_standsJoined_120 X hf hR hl) (fun hf hR hl => wX9_standsJoined_128 X hf hR hl) FU hf hR (lv_sub hl [1, 2, 3, 4, 0] rfl)
theorem ctX9_standsJoined {l : Launch} {E : Ge} {b : Bool} {M : Mem} {x1 : Int32} {x2 : Int32} {x3 : Int32} {r : Int32} (h : fX9_standsJoined M x1 x2 x3 = some r) : CT l E yX9_standsJoined cX9_standsJoined 8 (some .boolean) 2 0 0 [.ref (eB E + 40), .int x1, .int x2, .int x3] (some (.int r)) (sh_ b) (nn b) M (sh_ b) (nn b) M := by
  refine met_of (by decide) (Nat.le_of_ble_eq_true rfl) ?_
  intro p e s m args below meth c X _ hR ls hl
  exact wX9_standsJoined_0 X h hR hl
def fX9_fewestJoined_15 (k32 : Int32 → Int32 → Mem → Option (Int32 × Mem)) : Nat → Int32 → Int32 → Int32 → Mem → Option (Int32 × Mem)
  | 0, _, _, _, _ => none
  | n + 1, x1, x2, x3, M => (if x2 ≤ x3 then k32 x1 x2 M else (fX9_fillJoining x3 x1 M).bind (fun q23 => nx (x3 + (1 : Int32)) (fun v26 => fX9_fewestJoined_15 k32 n x1 x2 v26 q23)))
def fX9_fewestJoined_73 (k42 : Int32 → Int32 → Int32 → Int32 → Mem → Option (Int32 × Mem)) (k70 : Int32 → Mem → Option (Int32 × Mem)) (k79 : Int32 → Int32 → Int32 → Mem → Option (Int32 × Mem)) (x1 : Int32) (x2 : Int32) (x3 : Int32) (x4 : Int32) (M : Mem) : Option (Int32 × Mem) := nx (x4 + (1 : Int32)) (fun v73 => k42 x1 x2 x3 v73 M)
def fX9_fewestJoined_42 (k70 : Int32 → Mem → Option (Int32 × Mem)) (k79 : Int32 → Int32 → Int32 → Mem → Option (Int32 × Mem)) : Nat → Int32 → Int32 → Int32 → Int32 → Mem → Option (Int32 × Mem)
  | 0, _, _, _, _, _ => none
  | n + 1, x1, x2, x3, x4, M => (if ((1 : Int32) <<< (x2 &&& 31)) ≤ x4 then k79 x1 x2 x3 M else (fJ6_bitCount_0f7a4 M x4).bind (fun q52 => (if q52 = x3 then (fX9_standsJoined M x1 x4 x2).bind (fun q64 => (if q64 = 0 then fX9_fewestJoined_73 (fX9_fewestJoined_42 k70 k79 n) k70 k79 x1 x2 x3 x4 M else k70 x4 M)) else fX9_fewestJoined_73 (fX9_fewestJoined_42 k70 k79 n) k70 k79 x1 x2 x3 x4 M)))
def fX9_fewestJoined_79 (k34 : Int32 → Int32 → Int32 → Mem → Option (Int32 × Mem)) (k70 : Int32 → Mem → Option (Int32 × Mem)) (k85 : Mem → Option (Int32 × Mem)) (x1 : Int32) (x2 : Int32) (x3 : Int32) (M : Mem) : Option (Int32 × Mem) := nx (x3 + (1 : Int32)) (fun v79 => k34 x1 x2 v79 M)
def fX9_fewestJoined_34 (k70 : Int32 → Mem → Option (Int32 × Mem)) (k85 : Mem → Option (Int32 × Mem)) : Nat → Int32 → Int32 → Int32 → Mem → Option (Int32 × Mem)
  | 0, _, _, _, _ => none
  | n + 1, x1, x2, x3, M => (if x2 < x3 then k85 M else fX9_fewestJoined_42 k70 (fX9_fewestJoined_79 (fX9_fewestJoined_34 k70 k85 n) k70 k85) FU x1 x2 x3 (0 : Int32) M)
def fX9_fewestJoined_70 (x4 : Int32) (M : Mem) : Option (Int32 × Mem) := some (x4, M)
def fX9_fewestJoined_85 (M : Mem) : Option (Int32 × Mem) := some ((-1 : Int32), M)
def fX9_fewestJoined_32 (x1 : Int32) (x2 : Int32) (M : Mem) : Option (Int32 × Mem) := fX9_fewestJoined_34 fX9_fewestJoined_70 fX9_fewestJoined_85 FU x1 x2 (0 : Int32) M
def fX9_fewestJoined (x1 : Int32) (M : Mem) : Option (Int32 × Mem) := nx (imin (9 : Int32) (M.1 1 0)) (fun v12 => fX9_fewestJoined_15 fX9_fewestJoined_32 FU x1 v12 (0 : Int32) M)
set_option maxHeartbeats 4000000 in
set_option maxRecDepth 100000 in
theorem wX9_fewestJoined_15 {r : Int32} {M1 : Mem} {k32 : Int32 → Int32 → Mem → Option (Int32 × Mem)} (X : CX E p s m args c meth cX9_fewestJoined 5 (some .int) RX9) (hk32 : ∀ {x1 : Int32} {x2 : Int32} {M : Mem} {H : Heap} {locs : List Loc} {ls : Array Slot}, k32 x1 x2 M = some (r, M1) → Rl E (sh_ b) (nn b) s.heap M H locs → lv_has ls 5 [(0, .ref (eB E + 40)), (1, .int x1), (2, .int x2)] → W p l e (rm 6 0 0) s m args below meth c H locs 0 0 (MQ below (qq E (some (.int r)) (sh_ b) (nn b) M1) args s 0 0 (fr E)) (F0 m 32 ls [])) : ∀ (n : Nat) {x1 : Int32} {x2 : Int32} {x3 : Int32} {M : Mem} {H : Heap} {locs : List Loc} {ls : Array Slot}, fX9_fewestJoined_15 k32 n x1 x2 x3 M = some (r, M1) → Rl E (sh_ b) (nn b) s.heap M H locs → lv_has ls 5 [(0, .ref (eB E + 40)), (1, .int x1), (2, .int x2), (3, .int x3)] → W p l e (rm 6 0 0) s m args below meth c H locs 0 0 (MQ below (qq E (some (.int r)) (sh_ b) (nn b) M1) args s 0 0 (fr E)) (F0 m 15 ls []) := by
  obtain ⟨hx, hb, hr, hml, hown, hts, hK, hN, hO, hlk, hbs⟩ := id X
  intro n
  induction n with
  | zero =>
    intro x1 x2 x3 M H locs ls hf hR hl
    exact absurd (show none = some _ from hf) (fun h => by cases h)
  | succ n ih =>
    intro x1 x2 x3 M H locs ls hf hR hl
    rw [fX9_fewestJoined_15] at hf
    refine lv_iload_n hx hb dX9_fewestJoined_15 rfl (lv_at hl 3 rfl) ?_
    refine lv_iload_n hx hb dX9_fewestJoined_16 rfl (lv_at hl 2 rfl) ?_
    refine lv_icmp_ge (tgt := 32) hx hb dX9_fewestJoined_17 (by decide) (fun q17 => ?_) (fun q17 => ?_)
    · have hf := (br_if hf).1 q17
      exact hk32 hf hR (lv_sub hl [0, 1, 2] rfl)
    · have hf := (br_if hf).2 q17
      refine lv_aload_n hx hb dX9_fewestJoined_20 rfl (lv_at hl 0 rfl) ?_
      refine lv_iload_n hx hb dX9_fewestJoined_21 rfl (lv_at hl 3 rfl) ?_
      refine lv_iload_n hx hb dX9_fewestJoined_22 rfl (lv_at hl 1 rfl) ?_
      obtain ⟨q23, c23, hf⟩ := br_b hf
      refine x_callV (k := 40) (As := [.int x3, .int x1]) (rest := []) (st1 := []) X hR (ctX9_fillJoining c23) ml_X9_116 im_X9_fillJoining se_X9_fillJoining in_X9 co_X9_fillJoining yo_X9_fillJoining rfl kX9 (z_40 b) (rm_ok (by decide) (by decide)) rfl hl.1 rfl rfl (Nat.le_of_ble_eq_true rfl) dX9_fewestJoined_23 ⟨Nat.zero_le _, Nat.zero_le _⟩ (fun H locs hR => ?_)
      obtain ⟨v26, e26⟩ : ∃ y : Int32, y = (x3 + (1 : Int32)) := ⟨_, rfl⟩
      have hf := nx_at e26 hf
      refine lv_iinc (v := v26) (lv' := [(3, .int v26), (0, .ref (eB E + 40)), (1, .int x1), (2, .int x2)]) hx hb dX9_fewestJoined_26 hl (k := 3) rfl (by rw [e26]; rfl) (by decide) rfl (fun ls hl => ?_)
      refine lv_goto (tgt := 15) hx hb dX9_fewestJoined_29 (by decide) ?_
      exact ih hf hR (lv_sub hl [1, 2, 3, 0] rfl)
set_option maxHeartbeats 4000000 in
set_option maxRecDepth 100000 in
theorem wX9_fewestJoined_73 {r : Int32} {M1 : Mem} {k42 : Int32 → Int32 → Int32 → Int32 → Mem → Option (Int32 × Mem)} {k70 : Int32 → Mem → Option (Int32 × Mem)} {k79 : Int32 → Int32 → Int32 → Mem → Option (Int32 × Mem)} (X : CX E p s m args c meth cX9_fewestJoined 5 (some .int) RX9) (hk42 : ∀ {x1 : Int32} {x2 : Int32} {x3 : Int32} {x4 : Int32} {M : Mem} {H : Heap} {locs : List Loc} {ls : Array Slot}, k42 x1 x2 x3 x4 M = some (r, M1) → Rl E (sh_ b) (nn b) s.heap M H locs → lv_has ls 5 [(0, .ref (eB E + 40)), (1, .int x1), (2, .int x2), (3, .int x3), (4, .int x4)] → W p l e (rm 6 0 0) s m args below meth c H locs 0 0 (MQ below (qq E (some (.int r)) (sh_ b) (nn b) M1) args s 0 0 (fr E)) (F0 m 42 ls [])) (hk70 : ∀ {x4 : Int32} {M : Mem} {H : Heap} {locs : List Loc} {ls : Array Slot}, k70 x4 M = some (r, M1) → Rl E (sh_ b) (nn b) s.heap M H locs → lv_has ls 5 [(4, .int x4)] → W p l e (rm 6 0 0) s m args below meth c H locs 0 0 (MQ below (qq E (some (.int r)) (sh_ b) (nn b) M1) args s 0 0 (fr E)) (F0 m 70 ls [])) (hk79 : ∀ {x1 : Int32} {x2 : Int32} {x3 : Int32} {M : Mem} {H : Heap} {locs : List Loc} {ls : Array Slot}, k79 x1 x2 x3 M = some (r, M1) → Rl E (sh_ b) (nn b) s.heap M H locs → lv_has ls 5 [(0, .ref (eB E + 40)), (1, .int x1), (2, .int x2), (3, .int x3)] → W p l e (rm 6 0 0) s m args below meth c H locs 0 0 (MQ below (qq E (some (.int r)) (sh_ b) (nn b) M1) args s 0 0 (fr E)) (F0 m 79 ls [])) : ∀ {x1 : Int32} {x2 : Int32} {x3 : Int32} {x4 : Int32} {M : Mem} {H : Heap} {locs : List Loc} {ls : Array Slot}, fX9_fewestJoined_73 k42 k70 k79 x1 x2 x3 x4 M = some (r, M1) → Rl E (sh_ b) (nn b) s.heap M H locs → lv_has ls 5 [(0, .ref (eB E + 40)), (1, .int x1), (2, .int x2), (3, .int x3), (4, .int x4)] → W p l e (rm 6 0 0) s m args below meth c H locs 0 0 (MQ below (qq E (some (.int r)) (sh_ b) (nn b) M1) args s 0 0 (fr E)) (F0 m 73 ls []) := by
  obtain ⟨hx, hb, hr, hml, hown, hts, hK, hN, hO, hlk, hbs⟩ := id X
  intro x1 x2 x3 x4 M H locs ls hf hR hl
  unfold fX9_fewestJoined_73 at hf
  obtain ⟨v73, e73⟩ : ∃ y : Int32, y = (x4 + (1 : Int32)) := ⟨_, rfl⟩
  have hf := nx_at e73 hf
  refine lv_iinc (v := v73) (lv' := [(4, .int v73), (0, .ref (eB E + 40)), (1, .int x1), (2, .int x2), (3, .int x3)]) hx hb dX9_fewestJoined_73 hl (k := 4) rfl (by rw [e73]; rfl) (by decide) rfl (fun ls hl => ?_)
  refine lv_goto (tgt := 42) hx hb dX9_fewestJoined_76 (by decide) ?_
  exact hk42 hf hR (lv_sub hl [1, 2, 3, 4, 0] rfl)
set_option maxHeartbeats 4000000 in
set_option maxRecDepth 100000 in
theorem wX9_fewestJoined_42 {r : Int32} {M1 : Mem} {k70 : Int32 → Mem → Option (Int32 × Mem)} {k79 : Int32 → Int32 → Int32 → Mem → Option (Int32 × Mem)} (X : CX E p s m args c meth cX9_fewestJoined 5 (some .int) RX9) (hk70 : ∀ {x4 : Int32} {M : Mem} {H : Heap} {locs : List Loc} {ls : Array Slot}, k70 x4 M = some (r, M1) → Rl E (sh_ b) (nn b) s.heap M H locs → lv_has ls 5 [(4, .int x4)] → W p l e (rm 6 0 0) s m args below meth c H locs 0 0 (MQ below (qq E (some (.int r)) (sh_ b) (nn b) M1) args s 0 0 (fr E)) (F0 m 70 ls [])) (hk79 : ∀ {x1 : Int32} {x2 : Int32} {x3 : Int32} {M : Mem} {H : Heap} {locs : List Loc} {ls : Array Slot}, k79 x1 x2 x3 M = some (r, M1) → Rl E (sh_ b) (nn b) s.heap M H locs → lv_has ls 5 [(0, .ref (eB E + 40)), (1, .int x1), (2, .int x2), (3, .int x3)] → W p l e (rm 6 0 0) s m args below meth c H locs 0 0 (MQ below (qq E (some (.int r)) (sh_ b) (nn b) M1) args s 0 0 (fr E)) (F0 m 79 ls [])) : ∀ (n : Nat) {x1 : Int32} {x2 : Int32} {x3 : Int32} {x4 : Int32} {M : Mem} {H : Heap} {locs : List Loc} {ls : Array Slot}, fX9_fewestJoined_42 k70 k79 n x1 x2 x3 x4 M = some (r, M1) → Rl E (sh_ b) (nn b) s.heap M H locs → lv_has ls 5 [(0, .ref (eB E + 40)), (1, .int x1), (2, .int x2), (3, .int x3), (4, .int x4)] → W p l e (rm 6 0 0) s m args below meth c H locs 0 0 (MQ below (qq E (some (.int r)) (sh_ b) (nn b) M1) args s 0 0 (fr E)) (F0 m 42 ls []) := by
  obtain ⟨hx, hb, hr, hml, hown, hts, hK, hN, hO, hlk, hbs⟩ := id X
  intro n
  induction n with
  | zero =>
    intro x1 x2 x3 x4 M H locs ls hf hR hl
    exact absurd (show none = some _ from hf) (fun h => by cases h)
  | succ n ih =>
    intro x1 x2 x3 x4 M H locs ls hf hR hl
    rw [fX9_fewestJoined_42] at hf
    refine lv_iload hx hb dX9_fewestJoined_42 (lv_at hl 4 rfl) ?_
    refine lv_iconst (v := 1) hx hb dX9_fewestJoined_44 (by decide) ?_
    refine lv_iload_n hx hb dX9_fewestJoined_45 rfl (lv_at hl 2 rfl) ?_
    refine lv_ishl hx hb dX9_fewestJoined_46 ?_
    refine lv_icmp_ge (tgt := 79) hx hb dX9_fewestJoined_47 (by decide) (fun q47 => ?_) (fun q47 => ?_)
    · have hf := (br_if hf).1 q47
      exact hk79 hf hR (lv_sub hl [0, 1, 2, 3] rfl)
    · have hf := (br_if hf).2 q47
      refine lv_iload hx hb dX9_fewestJoined_50 (lv_at hl 4 rfl) ?_
      obtain ⟨q52, c52, hf⟩ := br_b hf
      refine x_callS (As := [.int x4]) (rest := []) (st1 := [.int q52]) X hR (ctJ6_bitCount_0f7a4 c52) ml_X9_119 st_J6_bitCount_0f7a4 in_J6 co_J6_bitCount_0f7a4 yo_J6_bitCount_0f7a4 (rm_ok (by decide) (by decide)) rfl hl.1 rfl rfl (Nat.le_of_ble_eq_true rfl) dX9_fewestJoined_52 ⟨Nat.zero_le _, Nat.zero_le _⟩ (fun H locs hR => ?_)
      refine lv_iload_n hx hb dX9_fewestJoined_55 rfl (lv_at hl 3 rfl) ?_
      refine lv_icmp_ne (tgt := 73) hx hb dX9_fewestJoined_56 (by decide) (fun q56 => ?_) (fun q56 => ?_)
      · have hf := (br_if hf).2 q56
        exact wX9_fewestJoined_73 X (fun hf hR hl => ih hf hR hl) (fun hf hR hl => hk70 hf hR hl) (fun hf hR hl => hk79 hf hR hl) hf hR hl
      · have hf := (br_if hf).1 q56
        refine lv_aload_n hx hb dX9_fewestJoined_59 rfl (lv_at hl 0 rfl) ?_
        refine lv_iload_n hx hb dX9_fewestJoined_60 rfl (lv_at hl 1 rfl) ?_
        refine lv_iload hx hb dX9_fewestJoined_61 (lv_at hl 4 rfl) ?_
        refine lv_iload_n hx hb dX9_fewestJoined_63 rfl (lv_at hl 2 rfl) ?_
        obtain ⟨q64, c64, hf⟩ := br_b hf
        refine x_callV (k := 40) (As := [.int x1, .int x4, .int x2]) (rest := []) (st1 := [.int q64]) X hR (ctX9_standsJoined c64) ml_X9_124 im_X9_standsJoined se_X9_standsJoined in_X9 co_X9_standsJoined yo_X9_standsJoined rfl kX9 (z_40 b) (rm_ok (by decide) (by decide)) rfl hl.1 rfl rfl (Nat.le_of_ble_eq_true rfl) dX9_fewestJoined_64 ⟨Nat.zero_le _, Nat.zero_le _⟩ (fun H locs hR => ?_)
        refine lv_if_eq (tgt := 73) hx hb dX9_fewestJoined_67 (by decide) (fun q67 => ?_) (fun q67 => ?_)
        · have hf := (br_if hf).1 q67
          exact wX9_fewestJoined_73 X (fun hf hR hl => ih hf hR hl) (fun hf hR hl => hk70 hf hR hl) (fun hf hR hl => hk79 hf hR hl) hf hR hl
        · have hf := (br_if hf).2 q67
          exact hk70 hf hR (lv_sub hl [4] rfl)
set_option maxHeartbeats 4000000 in
set_option maxRecDepth 100000 in
theorem wX9_fewestJoined_79 {r : Int32} {M1 : Mem} {k34 : Int32 → Int32 → Int32 → Mem → Option (Int32 × Mem)} {k70 : Int32 → Mem → Option (Int32 × Mem)} {k85 : Mem → Option (Int32 × Mem)} (X : CX E p s m args c meth cX9_fewestJoined 5 (some .int) RX9) (hk34 : ∀ {x1 : Int32} {x2 : Int32} {x3 : Int32} {M : Mem} {H : Heap} {locs : List Loc} {ls : Array Slot}, k34 x1 x2 x3 M = some (r, M1) → Rl E (sh_ b) (nn b) s.heap M H locs → lv_has ls 5 [(0, .ref (eB E + 40)), (1, .int x1), (2, .int x2), (3, .int x3)] → W p l e (rm 6 0 0) s m args below meth c H locs 0 0 (MQ below (qq E (some (.int r)) (sh_ b) (nn b) M1) args s 0 0 (fr E)) (F0 m 34 ls [])) (hk70 : ∀ {x4 : Int32} {M : Mem} {H : Heap} {locs : List Loc} {ls : Array Slot}, k70 x4 M = some (r, M1) → Rl E (sh_ b) (nn b) s.heap M H locs → lv_has ls 5 [(4, .int x4)] → W p l e (rm 6 0 0) s m args below meth c H locs 0 0 (MQ below (qq E (some (.int r)) (sh_ b) (nn b) M1) args s 0 0 (fr E)) (F0 m 70 ls [])) (hk85 : ∀ {M : Mem} {H : Heap} {locs : List Loc} {ls : Array Slot}, k85 M = some (r, M1) → Rl E (sh_ b) (nn b) s.heap M H locs → lv_has ls 5 [] → W p l e (rm 6 0 0) s m args below meth c H locs 0 0 (MQ below (qq E (some (.int r)) (sh_ b) (nn b) M1) args s 0 0 (fr E)) (F0 m 85 ls [])) : ∀ {x1 : Int32} {x2 : Int32} {x3 : Int32} {M : Mem} {H : Heap} {locs : List Loc} {ls : Array Slot}, fX9_fewestJoined_79 k34 k70 k85 x1 x2 x3 M = some (r, M1) → Rl E (sh_ b) (nn b) s.heap M H locs → lv_has ls 5 [(0, .ref (eB E + 40)), (1, .int x1), (2, .int x2), (3, .int x3)] → W p l e (rm 6 0 0) s m args below meth c H locs 0 0 (MQ below (qq E (some (.int r)) (sh_ b) (nn b) M1) args s 0 0 (fr E)) (F0 m 79 ls []) := by
  obtain ⟨hx, hb, hr, hml, hown, hts, hK, hN, hO, hlk, hbs⟩ := id X
  intro x1 x2 x3 M H locs ls hf hR hl
  unfold fX9_fewestJoined_79 at hf
  obtain ⟨v79, e79⟩ : ∃ y : Int32, y = (x3 + (1 : Int32)) := ⟨_, rfl⟩
  have hf := nx_at e79 hf
  refine lv_iinc (v := v79) (lv' := [(3, .int v79), (0, .ref (eB E + 40)), (1, .int x1), (2, .int x2)]) hx hb dX9_fewestJoined_79 hl (k := 3) rfl (by rw [e79]; rfl) (by decide) rfl (fun ls hl => ?_)
  refine lv_goto (tgt := 34) hx hb dX9_fewestJoined_82 (by decide) ?_
  exact hk34 hf hR (lv_sub hl [1, 2, 3, 0] rfl)
set_option maxHeartbeats 4000000 in
set_option maxRecDepth 100000 in
theorem wX9_fewestJoined_34 {r : Int32} {M1 : Mem} {k70 : Int32 → Mem → Option (Int32 × Mem)} {k85 : Mem → Option (Int32 × Mem)} (X : CX E p s m args c meth cX9_fewestJoined 5 (some .int) RX9) (hk70 : ∀ {x4 : Int32} {M : Mem} {H : Heap} {locs : List Loc} {ls : Array Slot}, k70 x4 M = some (r, M1) → Rl E (sh_ b) (nn b) s.heap M H locs → lv_has ls 5 [(4, .int x4)] → W p l e (rm 6 0 0) s m args below meth c H locs 0 0 (MQ below (qq E (some (.int r)) (sh_ b) (nn b) M1) args s 0 0 (fr E)) (F0 m 70 ls [])) (hk85 : ∀ {M : Mem} {H : Heap} {locs : List Loc} {ls : Array Slot}, k85 M = some (r, M1) → Rl E (sh_ b) (nn b) s.heap M H locs → lv_has ls 5 [] → W p l e (rm 6 0 0) s m args below meth c H locs 0 0 (MQ below (qq E (some (.int r)) (sh_ b) (nn b) M1) args s 0 0 (fr E)) (F0 m 85 ls [])) : ∀ (n : Nat) {x1 : Int32} {x2 : Int32} {x3 : Int32} {M : Mem} {H : Heap} {locs : List Loc} {ls : Array Slot}, fX9_fewestJoined_34 k70 k85 n x1 x2 x3 M = some (r, M1) → Rl E (sh_ b) (nn b) s.heap M H locs → lv_has ls 5 [(0, .ref (eB E + 40)), (1, .int x1), (2, .int x2), (3, .int x3)] → W p l e (rm 6 0 0) s m args below meth c H locs 0 0 (MQ below (qq E (some (.int r)) (sh_ b) (nn b) M1) args s 0 0 (fr E)) (F0 m 34 ls []) := by
  obtain ⟨hx, hb, hr, hml, hown, hts, hK, hN, hO, hlk, hbs⟩ := id X
  intro n
  induction n with
  | zero =>
    intro x1 x2 x3 M H locs ls hf hR hl
    exact absurd (show none = some _ from hf) (fun h => by cases h)
  | succ n ih =>
    intro x1 x2 x3 M H locs ls hf hR hl
    rw [fX9_fewestJoined_34] at hf
    refine lv_iload_n hx hb dX9_fewestJoined_34 rfl (lv_at hl 3 rfl) ?_
    refine lv_iload_n hx hb dX9_fewestJoined_35 rfl (lv_at hl 2 rfl) ?_
    refine lv_icmp_gt (tgt := 85) hx hb dX9_fewestJoined_36 (by decide) (fun q36 => ?_) (fun q36 => ?_)
    · have hf := (br_if hf).1 q36
      exact hk85 hf hR (lv_sub hl [] rfl)
    · have hf := (br_if hf).2 q36
      refine lv_iconst (v := 0) hx hb dX9_fewestJoined_39 (by decide) ?_
      refine lv_istore (lv' := [(4, .int (0 : Int32)), (0, .ref (eB E + 40)), (1, .int x1), (2, .int x2), (3, .int x3)]) hx hb dX9_fewestJoined_40 hl (by decide) rfl (fun ls hl => ?_)
      exact wX9_fewestJoined_42 X (fun hf hR hl => hk70 hf hR hl) (fun hf hR hl => wX9_fewestJoined_79 X (fun hf hR hl => ih hf hR hl) (fun hf hR hl => hk70 hf hR hl) (fun hf hR hl => hk85 hf hR hl) hf hR hl) FU hf hR (lv_sub hl [1, 2, 3, 4, 0] rfl)
set_option maxHeartbeats 4000000 in
set_option maxRecDepth 100000 in
theorem wX9_fewestJoined_70 {r : Int32} {M1 : Mem} (X : CX E p s m args c meth cX9_fewestJoined 5 (some .int) RX9) : ∀ {x4 : Int32} {M : Mem} {H : Heap} {locs : List Loc} {ls : Array Slot}, fX9_fewestJoined_70 x4 M = some (r, M1) → Rl E (sh_ b) (nn b) s.heap M H locs → lv_has ls 5 [(4, .int x4)] → W p l e (rm 6 0 0) s m args below meth c H locs 0 0 (MQ below (qq E (some (.int r)) (sh_ b) (nn b) M1) args s 0 0 (fr E)) (F0 m 70 ls []) := by
  obtain ⟨hx, hb, hr, hml, hown, hts, hK, hN, hO, hlk, hbs⟩ := id X
  intro x4 M H locs ls hf hR hl
  unfold fX9_fewestJoined_70 at hf
  refine lv_iload hx hb dX9_fewestJoined_70 (lv_at hl 0 rfl) ?_
  cases hf
  exact x_iret hx hb hr hlk hR dX9_fewestJoined_72
set_option maxHeartbeats 4000000 in
set_option maxRecDepth 100000 in
theorem wX9_fewestJoined_85 {r : Int32} {M1 : Mem} (X : CX E p s m args c meth cX9_fewestJoined 5 (some .int) RX9) : ∀ {M : Mem} {H : Heap} {locs : List Loc} {ls : Array Slot}, fX9_fewestJoined_85 M = some (r, M1) → Rl E (sh_ b) (nn b) s.heap M H locs → lv_has ls 5 [] → W p l e (rm 6 0 0) s m args below meth c H locs 0 0 (MQ below (qq E (some (.int r)) (sh_ b) (nn b) M1) args s 0 0 (fr E)) (F0 m 85 ls []) := by
  obtain ⟨hx, hb, hr, hml, hown, hts, hK, hN, hO, hlk, hbs⟩ := id X
  intro M H locs ls hf hR hl
  unfold fX9_fewestJoined_85 at hf
  refine lv_iconst (v := -1) hx hb dX9_fewestJoined_85 (by decide) ?_
  cases hf
  exact x_iret hx hb hr hlk hR dX9_fewestJoined_86
set_option maxHeartbeats 4000000 in
set_option maxRecDepth 100000 in
theorem wX9_fewestJoined_32 {r : Int32} {M1 : Mem} (X : CX E p s m args c meth cX9_fewestJoined 5 (some .int) RX9) : ∀ {x1 : Int32} {x2 : Int32} {M : Mem} {H : Heap} {locs : List Loc} {ls : Array Slot}, fX9_fewestJoined_32 x1 x2 M = some (r, M1) → Rl E (sh_ b) (nn b) s.heap M H locs → lv_has ls 5 [(0, .ref (eB E + 40)), (1, .int x1), (2, .int x2)] → W p l e (rm 6 0 0) s m args below meth c H locs 0 0 (MQ below (qq E (some (.int r)) (sh_ b) (nn b) M1) args s 0 0 (fr E)) (F0 m 32 ls []) := by
  obtain ⟨hx, hb, hr, hml, hown, hts, hK, hN, hO, hlk, hbs⟩ := id X
  intro x1 x2 M H locs ls hf hR hl
  unfold fX9_fewestJoined_32 at hf
  refine lv_iconst (v := 0) hx hb dX9_fewestJoined_32 (by decide) ?_
  refine lv_istore_n (lv' := [(3, .int (0 : Int32)), (0, .ref (eB E + 40)), (1, .int x1), (2, .int x2)]) hx hb dX9_fewestJoined_33 rfl hl (by decide) rfl (fun ls hl => ?_)
  exact wX9_fewestJoined_34 X (fun hf hR hl => wX9_fewestJoined_70 X hf hR hl) (fun hf hR hl => wX9_fewestJoined_85 X hf hR hl) FU hf hR (lv_sub hl [1, 2, 3, 0] rfl)
set_option maxHeartbeats 4000000 in
set_option maxRecDepth 100000 in
theorem wX9_fewestJoined_0 {r : Int32} {M1 : Mem} (X : CX E p s m args c meth cX9_fewestJoined 5 (some .int) RX9) : ∀ {x1 : Int32} {M : Mem} {H : Heap} {locs : List Loc} {ls : Array Slot}, fX9_fewestJoined x1 M = some (r, M1) → Rl E (sh_ b) (nn b) s.heap M H locs → lv_has ls 5 [(0, .ref (eB E + 40)), (1, .int x1)] → W p l e (rm 6 0 0) s m args below meth c H locs 0 0 (MQ below (qq E (some (.int r)) (sh_ b) (nn b) M1) args s 0 0 (fr E)) (F0 m 0 ls []) := by
  obtain ⟨hx, hb, hr, hml, hown, hts, hK, hN, hO, hlk, hbs⟩ := id X
  intro x1 M H locs ls hf hR hl
  unfold fX9_fewestJoined at hf
  refine lv_bipush (v := 9) hx hb dX9_fewestJoined_0 (by decide) ?_
  refine lv_aload_n hx hb dX9_fewestJoined_2 rfl (lv_at hl 0 rfl) ?_
  refine x_get hx hb hown hts hK hR kX9 (z_40 b) (j := 1) (by decide) fl_X9_50 (v := .ref (eB E + 1)) rfl dX9_fewestJoined_3 ?_
  refine x_get hx hb hown hts hK hR kX8 (z_1 b) (j := 0) (by decide) fl_X9_55 (v := .int (M.1 1 0)) rfl dX9_fewestJoined_6 ?_
  refine va_mmin hx hb (by rw [hml]; exact hl.1.symm) hown (hts _ ml_X9_113) (hts _ st_min) (hts _ in_J9) (hts _ co_min) (by decide) (Nat.le_of_ble_eq_true rfl) (Nat.zero_le _) (Nat.zero_le _) dX9_fewestJoined_9 ?_
  refine W.eq (g2 := F0 m 12 ls [.int (imin (9 : Int32) (M.1 1 0))]) rfl ?_
  refine lv_topi (fun v12 e12 => ?_)
  have hf := nx_at e12 hf
  refine lv_istore_n (lv' := [(2, .int v12), (0, .ref (eB E + 40)), (1, .int x1)]) hx hb dX9_fewestJoined_12 rfl hl (by decide) rfl (fun ls hl => ?_)
  refine lv_iconst (v := 0) hx hb dX9_fewestJoined_13 (by decide) ?_
  refine lv_istore_n (lv' := [(3, .int (0 : Int32)), (2, .int v12), (0, .ref (eB E + 40)), (1, .int x1)]) hx hb dX9_fewestJoined_14 rfl hl (by decide) rfl (fun ls hl => ?_)
  exact wX9_fewestJoined_15 X (fun hf hR hl => wX9_fewestJoined_32 X hf hR hl) FU hf hR (lv_sub hl [2, 3, 1, 0] rfl)
theorem ctX9_fewestJoined {l : Launch} {E : Ge} {b : Bool} {M : Mem} {x1 : Int32} {r : Int32} {M1 : Mem} (h : fX9_fewestJoined x1 M = some (r, M1)) : CT l E yX9_fewestJoined cX9_fewestJoined 5 (some .int) 6 0 0 [.ref (eB E + 40), .int x1] (some (.int r)) (sh_ b) (nn b) M (sh_ b) (nn b) M1 := by
  refine met_of (by decide) (Nat.le_of_ble_eq_true rfl) ?_
  intro p e s m args below meth c X _ hR ls hl
  exact wX9_fewestJoined_0 X h hR hl
def fX9_forBehind_53 (M : Mem) (x4 : Int32) : Option Int32 := some x4
def fX9_forBehind_32 (M : Mem) (x1 : Int32) (x2 : Int32) (x3 : Int32) (x4 : Int32) : Option Int32 := (if inb x1 20 = true then (if inb x2 20 = true then (if (M.1 42 (ix x2)) ≤ (M.1 42 (ix x1)) then fX9_forBehind_53 M x4 else nx (x4 + x3) (fun v51 => fX9_forBehind_53 M v51)) else none) else none)
def fX9_forBehind (M : Mem) (x1 : Int32) (x2 : Int32) (x3 : Int32) : Option Int32 := (fX0_forOf M x1 x2).bind (fun q6 => (if inb x1 20 = true then (if inb x2 20 = true then (if (M.1 41 (ix x2)) ≤ (M.1 41 (ix x1)) then fX9_forBehind_32 M x1 x2 x3 q6 else nx (q6 - x3) (fun v30 => fX9_forBehind_32 M x1 x2 x3 v30)) else none) else none))
set_option maxHeartbeats 4000000 in
set_option maxRecDepth 100000 in
theorem wX9_forBehind_53 {r : Int32} {M : Mem} (X : CX E p s m args c meth cX9_forBehind 5 (some .int) RX9) : ∀ {x4 : Int32} {H : Heap} {locs : List Loc} {ls : Array Slot}, fX9_forBehind_53 M x4 = some r → Rl E (sh_ b) (nn b) s.heap M H locs → lv_has ls 5 [(4, .int x4)] → W p l e (rm 2 0 0) s m args below meth c H locs 0 0 (MQ below (qq E (some (.int r)) (sh_ b) (nn b) M) args s 0 0 (fr E)) (F0 m 53 ls []) := by
  obtain ⟨hx, hb, hr, hml, hown, hts, hK, hN, hO, hlk, hbs⟩ := id X
  intro x4 H locs ls hf hR hl
  unfold fX9_forBehind_53 at hf
  refine lv_iload hx hb dX9_forBehind_53 (lv_at hl 0 rfl) ?_
  cases hf
  exact x_iret hx hb hr hlk hR dX9_forBehind_55
set_option maxHeartbeats 4000000 in
set_option maxRecDepth 100000 in
theorem wX9_forBehind_32 {r : Int32} {M : Mem} (X : CX E p s m args c meth cX9_forBehind 5 (some .int) RX9) : ∀ {x1 : Int32} {x2 : Int32} {x3 : Int32} {x4 : Int32} {H : Heap} {locs : List Loc} {ls : Array Slot}, fX9_forBehind_32 M x1 x2 x3 x4 = some r → Rl E (sh_ b) (nn b) s.heap M H locs → lv_has ls 5 [(0, .ref (eB E + 40)), (1, .int x1), (2, .int x2), (3, .int x3), (4, .int x4)] → W p l e (rm 2 0 0) s m args below meth c H locs 0 0 (MQ below (qq E (some (.int r)) (sh_ b) (nn b) M) args s 0 0 (fr E)) (F0 m 32 ls []) := by
  obtain ⟨hx, hb, hr, hml, hown, hts, hK, hN, hO, hlk, hbs⟩ := id X
  intro x1 x2 x3 x4 H locs ls hf hR hl
  unfold fX9_forBehind_32 at hf
  refine lv_aload_n hx hb dX9_forBehind_32 rfl (lv_at hl 0 rfl) ?_
  refine x_get hx hb hown hts hK hR kX9 (z_40 b) (j := 3) (by decide) fl_X9_15 (v := .ref (eB E + 42)) rfl dX9_forBehind_33 ?_
  refine lv_iload_n hx hb dX9_forBehind_36 rfl (lv_at hl 1 rfl) ?_
  obtain ⟨g37, hf⟩ := br_g hf
  refine x_iald hx hb hK hR (z_42 b) g37 dX9_forBehind_37 ?_
  refine lv_aload_n hx hb dX9_forBehind_38 rfl (lv_at hl 0 rfl) ?_
  refine x_get hx hb hown hts hK hR kX9 (z_40 b) (j := 3) (by decide) fl_X9_15 (v := .ref (eB E + 42)) rfl dX9_forBehind_39 ?_
  refine lv_iload_n hx hb dX9_forBehind_42 rfl (lv_at hl 2 rfl) ?_
  obtain ⟨g43, hf⟩ := br_g hf
  refine x_iald hx hb hK hR (z_42 b) g43 dX9_forBehind_43 ?_
  refine lv_icmp_ge (tgt := 53) hx hb dX9_forBehind_44 (by decide) (fun q44 => ?_) (fun q44 => ?_)
  · have hf := (br_if hf).1 q44
    exact wX9_forBehind_53 X hf hR (lv_sub hl [4] rfl)
  · have hf := (br_if hf).2 q44
    refine lv_iload hx hb dX9_forBehind_47 (lv_at hl 4 rfl) ?_
    refine lv_iload_n hx hb dX9_forBehind_49 rfl (lv_at hl 3 rfl) ?_
    refine lv_iadd hx hb dX9_forBehind_50 ?_
    refine lv_topi (fun v51 e51 => ?_)
    have hf := nx_at e51 hf
    refine lv_istore (lv' := [(4, .int v51), (0, .ref (eB E + 40)), (1, .int x1), (2, .int x2), (3, .int x3)]) hx hb dX9_forBehind_51 hl (by decide) rfl (fun ls hl => ?_)
    exact wX9_forBehind_53 X hf hR (lv_sub hl [0] rfl)
set_option maxHeartbeats 4000000 in
set_option maxRecDepth 100000 in
theorem wX9_forBehind_0 {r : Int32} {M : Mem} (X : CX E p s m args c meth cX9_forBehind 5 (some .int) RX9) : ∀ {x1 : Int32} {x2 : Int32} {x3 : Int32} {H : Heap} {locs : List Loc} {ls : Array Slot}, fX9_forBehind M x1 x2 x3 = some r → Rl E (sh_ b) (nn b) s.heap M H locs → lv_has ls 5 [(0, .ref (eB E + 40)), (1, .int x1), (2, .int x2), (3, .int x3)] → W p l e (rm 2 0 0) s m args below meth c H locs 0 0 (MQ below (qq E (some (.int r)) (sh_ b) (nn b) M) args s 0 0 (fr E)) (F0 m 0 ls []) := by
  obtain ⟨hx, hb, hr, hml, hown, hts, hK, hN, hO, hlk, hbs⟩ := id X
  intro x1 x2 x3 H locs ls hf hR hl
  unfold fX9_forBehind at hf
  refine lv_aload_n hx hb dX9_forBehind_0 rfl (lv_at hl 0 rfl) ?_
  refine x_get hx hb hown hts hK hR kX9 (z_40 b) (j := 0) (by decide) fl_X9_40 (v := .ref (eB E + 21)) rfl dX9_forBehind_1 ?_
  refine lv_iload_n hx hb dX9_forBehind_4 rfl (lv_at hl 1 rfl) ?_
  refine lv_iload_n hx hb dX9_forBehind_5 rfl (lv_at hl 2 rfl) ?_
  obtain ⟨q6, c6, hf⟩ := br_b hf
  refine x_callV (k := 21) (As := [.int x1, .int x2]) (rest := []) (st1 := [.int q6]) X hR (ctX0_forOf c6) ml_X9_109 im_X0_forOf se_X0_forOf in_X0 co_X0_forOf yo_X0_forOf rfl kX0 (z_21 b) (rm_ok (by decide) (by decide)) rfl hl.1 rfl rfl (Nat.le_of_ble_eq_true rfl) dX9_forBehind_6 ⟨Nat.zero_le _, Nat.zero_le _⟩ (fun H locs hR => ?_)
  refine lv_istore (lv' := [(4, .int q6), (0, .ref (eB E + 40)), (1, .int x1), (2, .int x2), (3, .int x3)]) hx hb dX9_forBehind_9 hl (by decide) rfl (fun ls hl => ?_)
  refine lv_aload_n hx hb dX9_forBehind_11 rfl (lv_at hl 1 rfl) ?_
  refine x_get hx hb hown hts hK hR kX9 (z_40 b) (j := 2) (by decide) fl_X9_9 (v := .ref (eB E + 41)) rfl dX9_forBehind_12 ?_
  refine lv_iload_n hx hb dX9_forBehind_15 rfl (lv_at hl 2 rfl) ?_
  obtain ⟨g16, hf⟩ := br_g hf
  refine x_iald hx hb hK hR (z_41 b) g16 dX9_forBehind_16 ?_
  refine lv_aload_n hx hb dX9_forBehind_17 rfl (lv_at hl 1 rfl) ?_
  refine x_get hx hb hown hts hK hR kX9 (z_40 b) (j := 2) (by decide) fl_X9_9 (v := .ref (eB E + 41)) rfl dX9_forBehind_18 ?_
  refine lv_iload_n hx hb dX9_forBehind_21 rfl (lv_at hl 3 rfl) ?_
  obtain ⟨g22, hf⟩ := br_g hf
  refine x_iald hx hb hK hR (z_41 b) g22 dX9_forBehind_22 ?_
  refine lv_icmp_ge (tgt := 32) hx hb dX9_forBehind_23 (by decide) (fun q23 => ?_) (fun q23 => ?_)
  · have hf := (br_if hf).1 q23
    exact wX9_forBehind_32 X hf hR (lv_sub hl [1, 2, 3, 4, 0] rfl)
  · have hf := (br_if hf).2 q23
    refine lv_iload hx hb dX9_forBehind_26 (lv_at hl 0 rfl) ?_
    refine lv_iload_n hx hb dX9_forBehind_28 rfl (lv_at hl 4 rfl) ?_
    refine lv_isub hx hb dX9_forBehind_29 ?_
    refine lv_topi (fun v30 e30 => ?_)
    have hf := nx_at e30 hf
    refine lv_istore (lv' := [(4, .int v30), (0, .ref (eB E + 40)), (1, .int x1), (2, .int x2), (3, .int x3)]) hx hb dX9_forBehind_30 hl (by decide) rfl (fun ls hl => ?_)
    exact wX9_forBehind_32 X hf hR (lv_sub hl [1, 2, 3, 4, 0] rfl)
theorem ctX9_forBehind {l : Launch} {E : Ge} {b : Bool} {M : Mem} {x1 : Int32} {x2 : Int32} {x3 : Int32} {r : Int32} (h : fX9_forBehind M x1 x2 x3 = some r) : CT l E yX9_forBehind cX9_forBehind 5 (some .int) 2 0 0 [.ref (eB E + 40), .int x1, .int x2, .int x3] (some (.int r)) (sh_ b) (nn b) M (sh_ b) (nn b) M := by
  refine met_of (by decide) (Nat.le_of_ble_eq_true rfl) ?_
  intro p e s m args below meth c X _ hR ls hl
  exact wX9_forBehind_0 X h hR hl
def fX9_isPeaceBehind_71 (M : Mem) (k18 : Int32 → Int32 → Int32 → Int32 → Option Int32) (k78 : Int32 → Int32 → Int32 → Option Int32) (x1 : Int32) (x2 : Int32) (x4 : Int32) (s0 : Int32) : Option Int32 := nx (x4 + (1 : Int32)) (fun v72 => k18 x1 x2 s0 v72)
def fX9_isPeaceBehind_66 (M : Mem) (k18 : Int32 → Int32 → Int32 → Int32 → Option Int32) (k78 : Int32 → Int32 → Int32 → Option Int32) (x1 : Int32) (x2 : Int32) (x4 : Int32) : Option Int32 := fX9_isPeaceBehind_71 M k18 k78 x1 x2 x4 (1 : Int32)
def fX9_isPeaceBehind_18 (M : Mem) (k78 : Int32 → Int32 → Int32 → Option Int32) : Nat → Int32 → Int32 → Int32 → Int32 → Option Int32
  | 0, _, _, _, _ => none
  | n + 1, x1, x2, x3, x4 => (if (M.1 1 8) ≤ x4 then k78 x1 x2 x3 else (if x3 = 0 then k78 x1 x2 x3 else (if x4 = x2 then fX9_isPeaceBehind_66 M (fX9_isPeaceBehind_18 M k78 n) k78 x1 x2 x4 else (fX9_forBehind M x4 x2 x1).bind (fun q49 => (fX9_forBehind M x2 x4 x1).bind (fun q57 => (fX8_isEnough_t M q49 q57).bind (fun q60 => (if q60 = 0 then fX9_isPeaceBehind_66 M (fX9_isPeaceBehind_18 M k78 n) k78 x1 x2 x4 else fX9_isPeaceBehind_71 M (fX9_isPeaceBehind_18 M k78 n) k78 x1 x2 x4 (0 : Int32))))))))
def fX9_isPeaceBehind_78 (M : Mem) (k2 : Int32 → Int32 → Option Int32) (k82 : Option Int32) (k90 : Option Int32) (x1 : Int32) (x2 : Int32) (x3 : Int32) : Option Int32 := (if x3 = 0 then nx (x2 + (1 : Int32)) (fun v84 => k2 x1 v84) else k82)
def fX9_isPeaceBehind_2 (M : Mem) (k82 : Option Int32) (k90 : Option Int32) : Nat → Int32 → Int32 → Option Int32
  | 0, _, _ => none
  | n + 1, x1, x2 => (if (M.1 1 8) ≤ x2 then k90 else fX9_isPeaceBehind_18 M (fX9_isPeaceBehind_78 M (fX9_isPeaceBehind_2 M k82 k90 n) k82 k90) FU x1 x2 (1 : Int32) (0 : Int32))
def fX9_isPeaceBehind_82 (M : Mem) : Option Int32 := some (1 : Int32)
def fX9_isPeaceBehind_90 (M : Mem) : Option Int32 := some (0 : Int32)
def fX9_isPeaceBehind (M : Mem) (x1 : Int32) : Option Int32 := fX9_isPeaceBehind_2 M (fX9_isPeaceBehind_82 M) (fX9_isPeaceBehind_90 M) FU x1 (0 : Int32)
set_option maxHeartbeats 4000000 in
set_option maxRecDepth 100000 in
theorem wX9_isPeaceBehind_71 {r : Int32} {M : Mem} {k18 : Int32 → Int32 → Int32 → Int32 → Option Int32} {k78 : Int32 → Int32 → Int32 → Option Int32} (X : CX E p s m args c meth cX9_isPeaceBehind 5 (some .boolean) RX9) (hk18 : ∀ {x1 : Int32} {x2 : Int32} {x3 : Int32} {x4 : Int32} {H : Heap} {locs : List Loc} {ls : Array Slot}, k18 x1 x2 x3 x4 = some r → Rl E (sh_ b) (nn b) s.heap M H locs → lv_has ls 5 [(0, .ref (eB E + 40)), (1, .int x1), (2, .int x2), (3, .int x3), (4, .int x4)] → W p l e (rm 3 0 0) s m args below meth c H locs 0 0 (MQ below (qq E (some (.int r)) (sh_ b) (nn b) M) args s 0 0 (fr E)) (F0 m 18 ls [])) (hk78 : ∀ {x1 : Int32} {x2 : Int32} {x3 : Int32} {H : Heap} {locs : List Loc} {ls : Array Slot}, k78 x1 x2 x3 = some r → Rl E (sh_ b) (nn b) s.heap M H locs → lv_has ls 5 [(0, .ref (eB E + 40)), (1, .int x1), (2, .int x2), (3, .int x3)] → W p l e (rm 3 0 0) s m args below meth c H locs 0 0 (MQ below (qq E (some (.int r)) (sh_ b) (nn b) M) args s 0 0 (fr E)) (F0 m 78 ls [])) : ∀ {x1 : Int32} {x2 : Int32} {x4 : Int32} {s0 : Int32} {H : Heap} {locs : List Loc} {ls : Array Slot}, fX9_isPeaceBehind_71 M k18 k78 x1 x2 x4 s0 = some r → Rl E (sh_ b) (nn b) s.heap M H locs → lv_has ls 5 [(0, .ref (eB E + 40)), (1, .int x1), (2, .int x2), (4, .int x4)] → W p l e (rm 3 0 0) s m args below meth c H locs 0 0 (MQ below (qq E (some (.int r)) (sh_ b) (nn b) M) args s 0 0 (fr E)) (F0 m 71 ls [.int s0]) := by
  obtain ⟨hx, hb, hr, hml, hown, hts, hK, hN, hO, hlk, hbs⟩ := id X
  intro x1 x2 x4 s0 H locs ls hf hR hl
  unfold fX9_isPeaceBehind_71 at hf
  refine lv_istore_n (lv' := [(3, .int s0), (0, .ref (eB E + 40)), (1, .int x1), (2, .int x2), (4, .int x4)]) hx hb dX9_isPeaceBehind_71 rfl hl (by decide) rfl (fun ls hl => ?_)
  obtain ⟨v72, e72⟩ : ∃ y : Int32, y = (x4 + (1 : Int32)) := ⟨_, rfl⟩
  have hf := nx_at e72 hf
  refine lv_iinc (v := v72) (lv' := [(4, .int v72), (3, .int s0), (0, .ref (eB E + 40)), (1, .int x1), (2, .int x2)]) hx hb dX9_isPeaceBehind_72 hl (k := 4) rfl (by rw [e72]; rfl) (by decide) rfl (fun ls hl => ?_)
  refine lv_goto (tgt := 18) hx hb dX9_isPeaceBehind_75 (by decide) ?_
  exact hk18 hf hR (lv_sub hl [2, 3, 4, 1, 0] rfl)
set_option maxHeartbeats 4000000 in
set_option maxRecDepth 100000 in
theorem wX9_isPeaceBehind_66 {r : Int32} {M : Mem} {k18 : Int32 → Int32 → Int32 → Int32 → Option Int32} {k78 : Int32 → Int32 → Int32 → Option Int32} (X : CX E p s m args c meth cX9_isPeaceBehind 5 (some .boolean) RX9) (hk18 : ∀ {x1 : Int32} {x2 : Int32} {x3 : Int32} {x4 : Int32} {H : Heap} {locs : List Loc} {ls : Array Slot}, k18 x1 x2 x3 x4 = some r → Rl E (sh_ b) (nn b) s.heap M H locs → lv_has ls 5 [(0, .ref (eB E + 40)), (1, .int x1), (2, .int x2), (3, .int x3), (4, .int x4)] → W p l e (rm 3 0 0) s m args below meth c H locs 0 0 (MQ below (qq E (some (.int r)) (sh_ b) (nn b) M) args s 0 0 (fr E)) (F0 m 18 ls [])) (hk78 : ∀ {x1 : Int32} {x2 : Int32} {x3 : Int32} {H : Heap} {locs : List Loc} {ls : Array Slot}, k78 x1 x2 x3 = some r → Rl E (sh_ b) (nn b) s.heap M H locs → lv_has ls 5 [(0, .ref (eB E + 40)), (1, .int x1), (2, .int x2), (3, .int x3)] → W p l e (rm 3 0 0) s m args below meth c H locs 0 0 (MQ below (qq E (some (.int r)) (sh_ b) (nn b) M) args s 0 0 (fr E)) (F0 m 78 ls [])) : ∀ {x1 : Int32} {x2 : Int32} {x4 : Int32} {H : Heap} {locs : List Loc} {ls : Array Slot}, fX9_isPeaceBehind_66 M k18 k78 x1 x2 x4 = some r → Rl E (sh_ b) (nn b) s.heap M H locs → lv_has ls 5 [(0, .ref (eB E + 40)), (1, .int x1), (2, .int x2), (4, .int x4)] → W p l e (rm 3 0 0) s m args below meth c H locs 0 0 (MQ below (qq E (some (.int r)) (sh_ b) (nn b) M) args s 0 0 (fr E)) (F0 m 66 ls []) := by
  obtain ⟨hx, hb, hr, hml, hown, hts, hK, hN, hO, hlk, hbs⟩ := id X
  intro x1 x2 x4 H locs ls hf hR hl
  unfold fX9_isPeaceBehind_66 at hf
  refine lv_iconst (v := 1) hx hb dX9_isPeaceBehind_66 (by decide) ?_
  refine lv_goto (tgt := 71) hx hb dX9_isPeaceBehind_67 (by decide) ?_
  exact wX9_isPeaceBehind_71 X (fun hf hR hl => hk18 hf hR hl) (fun hf hR hl => hk78 hf hR hl) hf hR hl
set_option maxHeartbeats 4000000 in
set_option maxRecDepth 100000 in
theorem wX9_isPeaceBehind_18 {r : Int32} {M : Mem} {k78 : Int32 → Int32 → Int32 → Option Int32} (X : CX E p s m args c meth cX9_isPeaceBehind 5 (some .boolean) RX9) (hk78 : ∀ {x1 : Int32} {x2 : Int32} {x3 : Int32} {H : Heap} {locs : List Loc} {ls : Array Slot}, k78 x1 x2 x3 = some r → Rl E (sh_ b) (nn b) s.heap M H locs → lv_has ls 5 [(0, .ref (eB E + 40)), (1, .int x1), (2, .int x2), (3, .int x3)] → W p l e (rm 3 0 0) s m args below meth c H locs 0 0 (MQ below (qq E (some (.int r)) (sh_ b) (nn b) M) args s 0 0 (fr E)) (F0 m 78 ls [])) : ∀ (n : Nat) {x1 : Int32} {x2 : Int32} {x3 : Int32} {x4 : Int32} {H : Heap} {locs : List Loc} {ls : Array Slot}, fX9_isPeaceBehind_18 M k78 n x1 x2 x3 x4 = some r → Rl E (sh_ b) (nn b) s.heap M H locs → lv_has ls 5 [(0, .ref (eB E + 40)), (1, .int x1), (2, .int x2), (3, .int x3), (4, .int x4)] → W p l e (rm 3 0 0) s m args below meth c H locs 0 0 (MQ below (qq E (some (.int r)) (sh_ b) (nn b) M) args s 0 0 (fr E)) (F0 m 18 ls []) := by
  obtain ⟨hx, hb, hr, hml, hown, hts, hK, hN, hO, hlk, hbs⟩ := id X
  intro n
  induction n with
  | zero =>
    intro x1 x2 x3 x4 H locs ls hf hR hl
    exact absurd (show none = some _ from hf) (fun h => by cases h)
  | succ n ih =>
    intro x1 x2 x3 x4 H locs ls hf hR hl
    rw [fX9_isPeaceBehind_18] at hf
    refine lv_iload hx hb dX9_isPeaceBehind_18 (lv_at hl 4 rfl) ?_
    refine lv_aload_n hx hb dX9_isPeaceBehind_20 rfl (lv_at hl 0 rfl) ?_
    refine x_get hx hb hown hts hK hR kX9 (z_40 b) (j := 1) (by decide) fl_X9_50 (v := .ref (eB E + 1)) rfl dX9_isPeaceBehind_21 ?_
    refine x_get hx hb hown hts hK hR kX8 (z_1 b) (j := 8) (by decide) fl_X9_68 (v := .int (M.1 1 8)) rfl dX9_isPeaceBehind_24 ?_
    refine lv_icmp_ge (tgt := 78) hx hb dX9_isPeaceBehind_27 (by decide) (fun q27 => ?_) (fun q27 => ?_)
    · have hf := (br_if hf).1 q27
      exact hk78 hf hR (lv_sub hl [0, 1, 2, 3] rfl)
    · have hf := (br_if hf).2 q27
      refine lv_iload_n hx hb dX9_isPeaceBehind_30 rfl (lv_at hl 3 rfl) ?_
      refine lv_if_eq (tgt := 78) hx hb dX9_isPeaceBehind_31 (by decide) (fun q31 => ?_) (fun q31 => ?_)
      · have hf := (br_if hf).1 q31
        exact hk78 hf hR (lv_sub hl [0, 1, 2, 3] rfl)
      · have hf := (br_if hf).2 q31
        refine lv_iload hx hb dX9_isPeaceBehind_34 (lv_at hl 4 rfl) ?_
        refine lv_iload_n hx hb dX9_isPeaceBehind_36 rfl (lv_at hl 2 rfl) ?_
        refine lv_icmp_eq (tgt := 66) hx hb dX9_isPeaceBehind_37 (by decide) (fun q37 => ?_) (fun q37 => ?_)
        · have hf := (br_if hf).1 q37
          exact wX9_isPeaceBehind_66 X (fun hf hR hl => ih hf hR hl) (fun hf hR hl => hk78 hf hR hl) hf hR (lv_sub hl [0, 1, 2, 4] rfl)
        · have hf := (br_if hf).2 q37
          refine lv_aload_n hx hb dX9_isPeaceBehind_40 rfl (lv_at hl 0 rfl) ?_
          refine x_get hx hb hown hts hK hR kX9 (z_40 b) (j := 1) (by decide) fl_X9_50 (v := .ref (eB E + 1)) rfl dX9_isPeaceBehind_41 ?_
          refine lv_aload_n hx hb dX9_isPeaceBehind_44 rfl (lv_at hl 0 rfl) ?_
          refine lv_iload hx hb dX9_isPeaceBehind_45 (lv_at hl 4 rfl) ?_
          refine lv_iload_n hx hb dX9_isPeaceBehind_47 rfl (lv_at hl 2 rfl) ?_
          refine lv_iload_n hx hb dX9_isPeaceBehind_48 rfl (lv_at hl 1 rfl) ?_
          obtain ⟨q49, c49, hf⟩ := br_b hf
          refine x_callV (k := 40) (As := [.int x4, .int x2, .int x1]) (rest := [.ref (eB E + 1)]) (st1 := [.int q49, .ref (eB E + 1)]) X hR (ctX9_forBehind c49) ml_X9_102 im_X9_forBehind se_X9_forBehind in_X9 co_X9_forBehind yo_X9_forBehind rfl kX9 (z_40 b) (rm_ok (by decide) (by decide)) rfl hl.1 rfl rfl (Nat.le_of_ble_eq_true rfl) dX9_isPeaceBehind_49 ⟨Nat.zero_le _, Nat.zero_le _⟩ (fun H locs hR => ?_)
          refine lv_aload_n hx hb dX9_isPeaceBehind_52 rfl (lv_at hl 0 rfl) ?_
          refine lv_iload_n hx hb dX9_isPeaceBehind_53 rfl (lv_at hl 2 rfl) ?_
          refine lv_iload hx hb dX9_isPeaceBehind_54 (lv_at hl 4 rfl) ?_
          refine lv_iload_n hx hb dX9_isPeaceBehind_56 rfl (lv_at hl 1 rfl) ?_
          obtain ⟨q57, c57, hf⟩ := br_b hf
          refine x_callV (k := 40) (As := [.int x2, .int x4, .int x1]) (rest := [.int q49, .ref (eB E + 1)]) (st1 := [.int q57, .int q49, .ref (eB E + 1)]) X hR (ctX9_forBehind c57) ml_X9_102 im_X9_forBehind se_X9_forBehind in_X9 co_X9_forBehind yo_X9_forBehind rfl kX9 (z_40 b) (rm_ok (by decide) (by decide)) rfl hl.1 rfl rfl (Nat.le_of_ble_eq_true rfl) dX9_isPeaceBehind_57 ⟨Nat.zero_le _, Nat.zero_le _⟩ (fun H locs hR => ?_)
          obtain ⟨q60, c60, hf⟩ := br_b hf
          refine x_callV (k := 1) (As := [.int q49, .int q57]) (rest := []) (st1 := [.int q60]) X hR (ctX8_isEnough_t c60) ml_X9_105 im_X8_isEnough se_X8_isEnough in_X8 co_X8_isEnough yo_X8_isEnough rfl kX8 (z_1 b) (rm_ok (by decide) (by decide)) rfl hl.1 rfl rfl (Nat.le_of_ble_eq_true rfl) dX9_isPeaceBehind_60 ⟨Nat.zero_le _, Nat.zero_le _⟩ (fun H locs hR => ?_)
          refine lv_if_ne (tgt := 70) hx hb dX9_isPeaceBehind_63 (by decide) (fun q63 => ?_) (fun q63 => ?_)
          · have hf := (br_if hf).2 q63
            refine lv_iconst (v := 0) hx hb dX9_isPeaceBehind_70 (by decide) ?_
            exact wX9_isPeaceBehind_71 X (fun hf hR hl => ih hf hR hl) (fun hf hR hl => hk78 hf hR hl) hf hR (lv_sub hl [0, 1, 2, 4] rfl)
          · have hf := (br_if hf).1 q63
            exact wX9_isPeaceBehind_66 X (fun hf hR hl => ih hf hR hl) (fun hf hR hl => hk78 hf hR hl) hf hR (lv_sub hl [0, 1, 2, 4] rfl)
set_option maxHeartbeats 4000000 in
set_option maxRecDepth 100000 in
theorem wX9_isPeaceBehind_78 {r : Int32} {M : Mem} {k2 : Int32 → Int32 → Option Int32} {k82 : Option Int32} {k90 : Option Int32} (X : CX E p s m args c meth cX9_isPeaceBehind 5 (some .boolean) RX9) (hk2 : ∀ {x1 : Int32} {x2 : Int32} {H : Heap} {locs : List Loc} {ls : Array Slot}, k2 x1 x2 = some r → Rl E (sh_ b) (nn b) s.heap M H locs → lv_has ls 5 [(0, .ref (eB E + 40)), (1, .int x1), (2, .int x2)] → W p l e (rm 3 0 0) s m args below meth c H locs 0 0 (MQ below (qq E (some (.int r)) (sh_ b) (nn b) M) args s 0 0 (fr E)) (F0 m 2 ls [])) (hk82 : ∀ {H : Heap} {locs : List Loc} {ls : Array Slot}, k82 = some r → Rl E (sh_ b) (nn b) s.heap M H locs → lv_has ls 5 [] → W p l e (rm 3 0 0) s m args below meth c H locs 0 0 (MQ below (qq E (some (.int r)) (sh_ b) (nn b) M) args s 0 0 (fr E)) (F0 m 82 ls [])) (hk90 : ∀ {H : Heap} {locs : List Loc} {ls : Array Slot}, k90 = some r → Rl E (sh_ b) (nn b) s.heap M H locs → lv_has ls 5 [] → W p l e (rm 3 0 0) s m args below meth c H locs 0 0 (MQ below (qq E (some (.int r)) (sh_ b) (nn b) M) args s 0 0 (fr E)) (F0 m 90 ls [])) : ∀ {x1 : Int32} {x2 : Int32} {x3 : Int32} {H : Heap} {locs : List Loc} {ls : Array Slot}, fX9_isPeaceBehind_78 M k2 k82 k90 x1 x2 x3 = some r → Rl E (sh_ b) (nn b) s.heap M H locs → lv_has ls 5 [(0, .ref (eB E + 40)), (1, .int x1), (2, .int x2), (3, .int x3)] → W p l e (rm 3 0 0) s m args below meth c H locs 0 0 (MQ below (qq E (some (.int r)) (sh_ b) (nn b) M) args s 0 0 (fr E)) (F0 m 78 ls []) := by
  obtain ⟨hx, hb, hr, hml, hown, hts, hK, hN, hO, hlk, hbs⟩ := id X
  intro x1 x2 x3 H locs ls hf hR hl
  unfold fX9_isPeaceBehind_78 at hf
  refine lv_iload_n hx hb dX9_isPeaceBehind_78 rfl (lv_at hl 3 rfl) ?_
  refine lv_if_eq (tgt := 84) hx hb dX9_isPeaceBehind_79 (by decide) (fun q79 => ?_) (fun q79 => ?_)
  · have hf := (br_if hf).1 q79
    obtain ⟨v84, e84⟩ : ∃ y : Int32, y = (x2 + (1 : Int32)) := ⟨_, rfl⟩
    have hf := nx_at e84 hf
    refine lv_iinc (v := v84) (lv' := [(2, .int v84), (0, .ref (eB E + 40)), (1, .int x1), (3, .int x3)]) hx hb dX9_isPeaceBehind_84 hl (k := 2) rfl (by rw [e84]; rfl) (by decide) rfl (fun ls hl => ?_)
    refine lv_goto (tgt := 2) hx hb dX9_isPeaceBehind_87 (by decide) ?_
    exact hk2 hf hR (lv_sub hl [1, 2, 0] rfl)
  · have hf := (br_if hf).2 q79
    exact hk82 hf hR (lv_sub hl [] rfl)
set_option maxHeartbeats 4000000 in
set_option maxRecDepth 100000 in
theorem wX9_isPeaceBehind_2 {r : Int32} {M : Mem} {k82 : Option Int32} {k90 : Option Int32} (X : CX E p s m args c meth cX9_isPeaceBehind 5 (some .boolean) RX9) (hk82 : ∀ {H : Heap} {locs : List Loc} {ls : Array Slot}, k82 = some r → Rl E (sh_ b) (nn b) s.heap M H locs → lv_has ls 5 [] → W p l e (rm 3 0 0) s m args below meth c H locs 0 0 (MQ below (qq E (some (.int r)) (sh_ b) (nn b) M) args s 0 0 (fr E)) (F0 m 82 ls [])) (hk90 : ∀ {H : Heap} {locs : List Loc} {ls : Array Slot}, k90 = some r → Rl E (sh_ b) (nn b) s.heap M H locs → lv_has ls 5 [] → W p l e (rm 3 0 0) s m args below meth c H locs 0 0 (MQ below (qq E (some (.int r)) (sh_ b) (nn b) M) args s 0 0 (fr E)) (F0 m 90 ls [])) : ∀ (n : Nat) {x1 : Int32} {x2 : Int32} {H : Heap} {locs : List Loc} {ls : Array Slot}, fX9_isPeaceBehind_2 M k82 k90 n x1 x2 = some r → Rl E (sh_ b) (nn b) s.heap M H locs → lv_has ls 5 [(0, .ref (eB E + 40)), (1, .int x1), (2, .int x2)] → W p l e (rm 3 0 0) s m args below meth c H locs 0 0 (MQ below (qq E (some (.int r)) (sh_ b) (nn b) M) args s 0 0 (fr E)) (F0 m 2 ls []) := by
  obtain ⟨hx, hb, hr, hml, hown, hts, hK, hN, hO, hlk, hbs⟩ := id X
  intro n
  induction n with
  | zero =>
    intro x1 x2 H locs ls hf hR hl
    exact absurd (show none = some _ from hf) (fun h => by cases h)
  | succ n ih =>
    intro x1 x2 H locs ls hf hR hl
    rw [fX9_isPeaceBehind_2] at hf
    refine lv_iload_n hx hb dX9_isPeaceBehind_2 rfl (lv_at hl 2 rfl) ?_
    refine lv_aload_n hx hb dX9_isPeaceBehind_3 rfl (lv_at hl 0 rfl) ?_
    refine x_get hx hb hown hts hK hR kX9 (z_40 b) (j := 1) (by decide) fl_X9_50 (v := .ref (eB E + 1)) rfl dX9_isPeaceBehind_4 ?_
    refine x_get hx hb hown hts hK hR kX8 (z_1 b) (j := 8) (by decide) fl_X9_68 (v := .int (M.1 1 8)) rfl dX9_isPeaceBehind_7 ?_
    refine lv_icmp_ge (tgt := 90) hx hb dX9_isPeaceBehind_10 (by decide) (fun q10 => ?_) (fun q10 => ?_)
    · have hf := (br_if hf).1 q10
      exact hk90 hf hR (lv_sub hl [] rfl)
    · have hf := (br_if hf).2 q10
      refine lv_iconst (v := 1) hx hb dX9_isPeaceBehind_13 (by decide) ?_
      refine lv_istore_n (lv' := [(3, .int (1 : Int32)), (0, .ref (eB E + 40)), (1, .int x1), (2, .int x2)]) hx hb dX9_isPeaceBehind_14 rfl hl (by decide) rfl (fun ls hl => ?_)
      refine lv_iconst (v := 0) hx hb dX9_isPeaceBehind_15 (by decide) ?_
      refine lv_istore (lv' := [(4, .int (0 : Int32)), (3, .int (1 : Int32)), (0, .ref (eB E + 40)), (1, .int x1), (2, .int x2)]) hx hb dX9_isPeaceBehind_16 hl (by decide) rfl (fun ls hl => ?_)
      exact wX9_isPeaceBehind_18 X (fun hf hR hl => wX9_isPeaceBehind_78 X (fun hf hR hl => ih hf hR hl) (fun hf hR hl => hk82 hf hR hl) (fun hf hR hl => hk90 hf hR hl) hf hR hl) FU hf hR (lv_sub hl [2, 3, 4, 1, 0] rfl)
set_option maxHeartbeats 4000000 in
set_option maxRecDepth 100000 in
theorem wX9_isPeaceBehind_82 {r : Int32} {M : Mem} (X : CX E p s m args c meth cX9_isPeaceBehind 5 (some .boolean) RX9) : ∀ {H : Heap} {locs : List Loc} {ls : Array Slot}, fX9_isPeaceBehind_82 M = some r → Rl E (sh_ b) (nn b) s.heap M H locs → lv_has ls 5 [] → W p l e (rm 3 0 0) s m args below meth c H locs 0 0 (MQ below (qq E (some (.int r)) (sh_ b) (nn b) M) args s 0 0 (fr E)) (F0 m 82 ls []) := by
  obtain ⟨hx, hb, hr, hml, hown, hts, hK, hN, hO, hlk, hbs⟩ := id X
  intro H locs ls hf hR hl
  unfold fX9_isPeaceBehind_82 at hf
  refine lv_iconst (v := 1) hx hb dX9_isPeaceBehind_82 (by decide) ?_
  cases hf
  exact x_zret hx hb hr hlk hR (by decide) dX9_isPeaceBehind_83
set_option maxHeartbeats 4000000 in
set_option maxRecDepth 100000 in
theorem wX9_isPeaceBehind_90 {r : Int32} {M : Mem} (X : CX E p s m args c meth cX9_isPeaceBehind 5 (some .boolean) RX9) : ∀ {H : Heap} {locs : List Loc} {ls : Array Slot}, fX9_isPeaceBehind_90 M = some r → Rl E (sh_ b) (nn b) s.heap M H locs → lv_has ls 5 [] → W p l e (rm 3 0 0) s m args below meth c H locs 0 0 (MQ below (qq E (some (.int r)) (sh_ b) (nn b) M) args s 0 0 (fr E)) (F0 m 90 ls []) := by
  obtain ⟨hx, hb, hr, hml, hown, hts, hK, hN, hO, hlk, hbs⟩ := id X
  intro H locs ls hf hR hl
  unfold fX9_isPeaceBehind_90 at hf
  refine lv_iconst (v := 0) hx hb dX9_isPeaceBehind_90 (by decide) ?_
  cases hf
  exact x_zret hx hb hr hlk hR (by decide) dX9_isPeaceBehind_91
set_option maxHeartbeats 4000000 in
set_option maxRecDepth 100000 in
theorem wX9_isPeaceBehind_0 {r : Int32} {M : Mem} (X : CX E p s m args c meth cX9_isPeaceBehind 5 (some .boolean) RX9) : ∀ {x1 : Int32} {H : Heap} {locs : List Loc} {ls : Array Slot}, fX9_isPeaceBehind M x1 = some r → Rl E (sh_ b) (nn b) s.heap M H locs → lv_has ls 5 [(0, .ref (eB E + 40)), (1, .int x1)] → W p l e (rm 3 0 0) s m args below meth c H locs 0 0 (MQ below (qq E (some (.int r)) (sh_ b) (nn b) M) args s 0 0 (fr E)) (F0 m 0 ls []) := by
  obtain ⟨hx, hb, hr, hml, hown, hts, hK, hN, hO, hlk, hbs⟩ := id X
  intro x1 H locs ls hf hR hl
  unfold fX9_isPeaceBehind at hf
  refine lv_iconst (v := 0) hx hb dX9_isPeaceBehind_0 (by decide) ?_
  refine lv_istore_n (lv' := [(2, .int (0 : Int32)), (0, .ref (eB E + 40)), (1, .int x1)]) hx hb dX9_isPeaceBehind_1 rfl hl (by decide) rfl (fun ls hl => ?_)
  exact wX9_isPeaceBehind_2 X (fun hf hR hl => wX9_isPeaceBehind_82 X hf hR hl) (fun hf hR hl => wX9_isPeaceBehind_90 X hf hR hl) FU hf hR (lv_sub hl [1, 2, 0] rfl)
theorem ctX9_isPeaceBehind {l : Launch} {E : Ge} {b : Bool} {M : Mem} {x1 : Int32} {r : Int32} (h : fX9_isPeaceBehind M x1 = some r) : CT l E yX9_isPeaceBehind cX9_isPeaceBehind 5 (some .boolean) 3 0 0 [.ref (eB E + 40), .int x1] (some (.int r)) (sh_ b) (nn b) M (sh_ b) (nn b) M := by
  refine met_of (by decide) (Nat.le_of_ble_eq_true rfl) ?_
  intro p e s m args below meth c X _ hR ls hl
  exact wX9_isPeaceBehind_0 X h hR hl
def fX9_tryMove_139 (M : Mem) : Option Mem := some M
def fX9_tryMove_80 (x1 : Int32) (x2 : Int32) (x5 : Int32) (M : Mem) : Option Mem := (if inb x2 20 = true then (if inb x2 20 = true then (fX9_fillWays_42 x1 (M.1 8 (ix x2)) (M.1 9 (ix x2)) M).bind (fun q104 => (if inb x1 15 = true then (fX9_isPeaceBehind q104 (q104.1 4 (ix x1))).bind (fun q117 => (if q117 = 0 then fX9_tryMove_139 q104 else nx (sI q104 40 6 x1) (fun M125 => nx (sI M125 40 7 x2) (fun M130 => nx (sI M130 40 8 x5) (fun M136 => fX9_tryMove_139 M136))))) else none)) else none) else none)
def fX9_tryMove (x1 : Int32) (x2 : Int32) (M : Mem) : Option Mem := (if inb x2 20 = true then (if inb x1 15 = true then nx ((M.1 8 (ix x2)) - (M.1 2 (ix x1))) (fun v19 => (if inb x2 20 = true then (if inb x1 15 = true then nx ((M.1 9 (ix x2)) - (M.1 3 (ix x1))) (fun v39 => (if inb x1 15 = true then nx (((v19 * v19) + (v39 * v39)) * (M.1 4 (ix x1))) (fun v60 => (if (M.1 40 8) = (-1 : Int32) then fX9_tryMove_80 x1 x2 v60 M else (if v60 < (M.1 40 8) then fX9_tryMove_80 x1 x2 v60 M else some M))) else none)) else none) else none)) else none) else none)
set_option maxHeartbeats 4000000 in
set_option maxRecDepth 100000 in
theorem wX9_tryMove_139 {M1 : Mem} (X : CX E p s m args c meth cX9_tryMove 6 none RX9) : ∀ {M : Mem} {H : Heap} {locs : List Loc} {ls : Array Slot}, fX9_tryMove_139 M = some M1 → Rl E (sh_ b) (nn b) s.heap M H locs → lv_has ls 6 [] → W p l e (rm 5 0 0) s m args below meth c H locs 0 0 (MQ below (qq E none (sh_ b) (nn b) M1) args s 0 0 (fr E)) (F0 m 139 ls []) := by
  obtain ⟨hx, hb, hr, hml, hown, hts, hK, hN, hO, hlk, hbs⟩ := id X
  intro M H locs ls hf hR hl
  unfold fX9_tryMove_139 at hf
  cases hf
  exact x_vret hx hb hr hlk hR dX9_tryMove_139
set_option maxHeartbeats 4000000 in
set_option maxRecDepth 100000 in
theorem wX9_tryMove_80 {M1 : Mem} (X : CX E p s m args c meth cX9_tryMove 6 none RX9) : ∀ {x1 : Int32} {x2 : Int32} {x5 : Int32} {M : Mem} {H : Heap} {locs : List Loc} {ls : Array Slot}, fX9_tryMove_80 x1 x2 x5 M = some M1 → Rl E (sh_ b) (nn b) s.heap M H locs → lv_has ls 6 [(0, .ref (eB E + 40)), (1, .int x1), (2, .int x2), (5, .int x5)] → W p l e (rm 5 0 0) s m args below meth c H locs 0 0 (MQ below (qq E none (sh_ b) (nn b) M1) args s 0 0 (fr E)) (F0 m 80 ls []) := by
  obtain ⟨hx, hb, hr, hml, hown, hts, hK, hN, hO, hlk, hbs⟩ := id X
  intro x1 x2 x5 M H locs ls hf hR hl
  unfold fX9_tryMove_80 at hf
  refine lv_aload_n hx hb dX9_tryMove_80 rfl (lv_at hl 0 rfl) ?_
  refine lv_iload_n hx hb dX9_tryMove_81 rfl (lv_at hl 1 rfl) ?_
  refine lv_aload_n hx hb dX9_tryMove_82 rfl (lv_at hl 0 rfl) ?_
  refine x_get hx hb hown hts hK hR kX9 (z_40 b) (j := 1) (by decide) fl_X9_50 (v := .ref (eB E + 1)) rfl dX9_tryMove_83 ?_
  refine x_get hx hb hown hts hK hR kX8 (z_1 b) (j := 9) (by decide) fl_X9_75 (v := .ref (eB E + 8)) rfl dX9_tryMove_86 ?_
  refine lv_iload_n hx hb dX9_tryMove_89 rfl (lv_at hl 2 rfl) ?_
  obtain ⟨g90, hf⟩ := br_g hf
  refine x_iald hx hb hK hR (z_8 b) g90 dX9_tryMove_90 ?_
  refine lv_aload_n hx hb dX9_tryMove_91 rfl (lv_at hl 0 rfl) ?_
  refine x_get hx hb hown hts hK hR kX9 (z_40 b) (j := 1) (by decide) fl_X9_50 (v := .ref (eB E + 1)) rfl dX9_tryMove_92 ?_
  refine x_get hx hb hown hts hK hR kX8 (z_1 b) (j := 10) (by decide) fl_X9_78 (v := .ref (eB E + 9)) rfl dX9_tryMove_95 ?_
  refine lv_iload_n hx hb dX9_tryMove_98 rfl (lv_at hl 2 rfl) ?_
  obtain ⟨g99, hf⟩ := br_g hf
  refine x_iald hx hb hK hR (z_9 b) g99 dX9_tryMove_99 ?_
  refine lv_aload_n hx hb dX9_tryMove_100 rfl (lv_at hl 0 rfl) ?_
  refine x_get hx hb hown hts hK hR kX9 (z_40 b) (j := 3) (by decide) fl_X9_15 (v := .ref (eB E + 42)) rfl dX9_tryMove_101 ?_
  obtain ⟨q104, c104, hf⟩ := br_b hf
  refine x_callV (k := 40) (As := [.int x1, .int (M.1 8 (ix x2)), .int (M.1 9 (ix x2)), .ref (eB E + 42)]) (rest := []) (st1 := []) X hR (ctX9_fillWays_42 c104) ml_X9_64 im_X9_fillWays se_X9_fillWays in_X9 co_X9_fillWays yo_X9_fillWays rfl kX9 (z_40 b) (rm_ok (by decide) (by decide)) rfl hl.1 rfl rfl (Nat.le_of_ble_eq_true rfl) dX9_tryMove_104 ⟨Nat.zero_le _, Nat.zero_le _⟩ (fun H locs hR => ?_)
  refine lv_aload_n hx hb dX9_tryMove_107 rfl (lv_at hl 0 rfl) ?_
  refine lv_aload_n hx hb dX9_tryMove_108 rfl (lv_at hl 0 rfl) ?_
  refine x_get hx hb hown hts hK hR kX9 (z_40 b) (j := 1) (by decide) fl_X9_50 (v := .ref (eB E + 1)) rfl dX9_tryMove_109 ?_
  refine x_get hx hb hown hts hK hR kX8 (z_1 b) (j := 3) (by decide) fl_X9_81 (v := .ref (eB E + 4)) rfl dX9_tryMove_112 ?_
  refine lv_iload_n hx hb dX9_tryMove_115 rfl (lv_at hl 1 rfl) ?_
  obtain ⟨g116, hf⟩ := br_g hf
  refine x_iald hx hb hK hR (z_4 b) g116 dX9_tryMove_116 ?_
  obtain ⟨q117, c117, hf⟩ := br_b hf
  refine x_callV (k := 40) (As := [.int (q104.1 4 (ix x1))]) (rest := []) (st1 := [.int q117]) X hR (ctX9_isPeaceBehind c117) ml_X9_84 im_X9_isPeaceBehind se_X9_isPeaceBehind in_X9 co_X9_isPeaceBehind yo_X9_isPeaceBehind rfl kX9 (z_40 b) (rm_ok (by decide) (by decide)) rfl hl.1 rfl rfl (Nat.le_of_ble_eq_true rfl) dX9_tryMove_117 ⟨Nat.zero_le _, Nat.zero_le _⟩ (fun H locs hR => ?_)
  refine lv_if_eq (tgt := 139) hx hb dX9_tryMove_120 (by decide) (fun q120 => ?_) (fun q120 => ?_)
  · have hf := (br_if hf).1 q120
    exact wX9_tryMove_139 X hf hR (lv_sub hl [] rfl)
  · have hf := (br_if hf).2 q120
    refine lv_aload_n hx hb dX9_tryMove_123 rfl (lv_at hl 0 rfl) ?_
    refine lv_iload_n hx hb dX9_tryMove_124 rfl (lv_at hl 1 rfl) ?_
    refine x_puti hx hb hown hts hK hR kX9 (z_40 b) (j := 6) (by decide) fl_X9_24 rfl rfl rfl rfl dX9_tryMove_125 (fun H locs hR => ?_)
    obtain ⟨M125, e125⟩ : ∃ y : Mem, y = (sI q104 40 6 x1) := ⟨_, rfl⟩
    have hf := nx_at e125 hf
    have hR : Rl E (sh_ b) (nn b) s.heap M125 H locs := by rw [e125]; exact hR
    refine lv_aload_n hx hb dX9_tryMove_128 rfl (lv_at hl 0 rfl) ?_
    refine lv_iload_n hx hb dX9_tryMove_129 rfl (lv_at hl 2 rfl) ?_
    refine x_puti hx hb hown hts hK hR kX9 (z_40 b) (j := 7) (by decide) fl_X9_28 rfl rfl rfl rfl dX9_tryMove_130 (fun H locs hR => ?_)
    obtain ⟨M130, e130⟩ : ∃ y : Mem, y = (sI M125 40 7 x2) := ⟨_, rfl⟩
    have hf := nx_at e130 hf
    have hR : Rl E (sh_ b) (nn b) s.heap M130 H locs := by rw [e130]; exact hR
    refine lv_aload_n hx hb dX9_tryMove_133 rfl (lv_at hl 0 rfl) ?_
    refine lv_iload hx hb dX9_tryMove_134 (lv_at hl 3 rfl) ?_
    refine x_puti hx hb hown hts hK hR kX9 (z_40 b) (j := 8) (by decide) fl_X9_31 rfl rfl rfl rfl dX9_tryMove_136 (fun H locs hR => ?_)
    obtain ⟨M136, e136⟩ : ∃ y : Mem, y = (sI M130 40 8 x5) := ⟨_, rfl⟩
    have hf := nx_at e136 hf
    have hR : Rl E (sh_ b) (nn b) s.heap M136 H locs := by rw [e136]; exact hR
    exact wX9_tryMove_139 X hf hR (lv_sub hl [] rfl)
set_option maxHeartbeats 4000000 in
set_option maxRecDepth 100000 in
theorem wX9_tryMove_0 {M1 : Mem} (X : CX E p s m args c meth cX9_tryMove 6 none RX9) : ∀ {x1 : Int32} {x2 : Int32} {M : Mem} {H : Heap} {locs : List Loc} {ls : Array Slot}, fX9_tryMove x1 x2 M = some M1 → Rl E (sh_ b) (nn b) s.heap M H locs → lv_has ls 6 [(0, .ref (eB E + 40)), (1, .int x1), (2, .int x2)] → W p l e (rm 5 0 0) s m args below meth c H locs 0 0 (MQ below (qq E none (sh_ b) (nn b) M1) args s 0 0 (fr E)) (F0 m 0 ls []) := by
  obtain ⟨hx, hb, hr, hml, hown, hts, hK, hN, hO, hlk, hbs⟩ := id X
  intro x1 x2 M H locs ls hf hR hl
  unfold fX9_tryMove at hf
  refine lv_aload_n hx hb dX9_tryMove_0 rfl (lv_at hl 0 rfl) ?_
  refine x_get hx hb hown hts hK hR kX9 (z_40 b) (j := 1) (by decide) fl_X9_50 (v := .ref (eB E + 1)) rfl dX9_tryMove_1 ?_
  refine x_get hx hb hown hts hK hR kX8 (z_1 b) (j := 9) (by decide) fl_X9_75 (v := .ref (eB E + 8)) rfl dX9_tryMove_4 ?_
  refine lv_iload_n hx hb dX9_tryMove_7 rfl (lv_at hl 2 rfl) ?_
  obtain ⟨g8, hf⟩ := br_g hf
  refine x_iald hx hb hK hR (z_8 b) g8 dX9_tryMove_8 ?_
  refine lv_aload_n hx hb dX9_tryMove_9 rfl (lv_at hl 0 rfl) ?_
  refine x_get hx hb hown hts hK hR kX9 (z_40 b) (j := 1) (by decide) fl_X9_50 (v := .ref (eB E + 1)) rfl dX9_tryMove_10 ?_
  refine x_get hx hb hown hts hK hR kX8 (z_1 b) (j := 1) (by decide) fl_X9_58 (v := .ref (eB E + 2)) rfl dX9_tryMove_13 ?_
  refine lv_iload_n hx hb dX9_tryMove_16 rfl (lv_at hl 1 rfl) ?_
  obtain ⟨g17, hf⟩ := br_g hf
  refine x_iald hx hb hK hR (z_2 b) g17 dX9_tryMove_17 ?_
  refine lv_isub hx hb dX9_tryMove_18 ?_
  refine lv_topi (fun v19 e19 => ?_)
  have hf := nx_at e19 hf
  refine lv_istore_n (lv' := [(3, .int v19), (0, .ref (eB E + 40)), (1, .int x1), (2, .int x2)]) hx hb dX9_tryMove_19 rfl hl (by decide) rfl (fun ls hl => ?_)
  refine lv_aload_n hx hb dX9_tryMove_20 rfl (lv_at hl 1 rfl) ?_
  refine x_get hx hb hown hts hK hR kX9 (z_40 b) (j := 1) (by decide) fl_X9_50 (v := .ref (eB E + 1)) rfl dX9_tryMove_21 ?_
  refine x_get hx hb hown hts hK hR kX8 (z_1 b) (j := 10) (by decide) fl_X9_78 (v := .ref (eB E + 9)) rfl dX9_tryMove_24 ?_
  refine lv_iload_n hx hb dX9_tryMove_27 rfl (lv_at hl 3 rfl) ?_
  obtain ⟨g28, hf⟩ := br_g hf
  refine x_iald hx hb hK hR (z_9 b) g28 dX9_tryMove_28 ?_
  refine lv_aload_n hx hb dX9_tryMove_29 rfl (lv_at hl 1 rfl) ?_
  refine x_get hx hb hown hts hK hR kX9 (z_40 b) (j := 1) (by decide) fl_X9_50 (v := .ref (eB E + 1)) rfl dX9_tryMove_30 ?_
  refine x_get hx hb hown hts hK hR kX8 (z_1 b) (j := 2) (by decide) fl_X9_61 (v := .ref (eB E + 3)) rfl dX9_tryMove_33 ?_
  refine lv_iload_n hx hb dX9_tryMove_36 rfl (lv_at hl 2 rfl) ?_
  obtain ⟨g37, hf⟩ := br_g hf
  refine x_iald hx hb hK hR (z_3 b) g37 dX9_tryMove_37 ?_
  refine lv_isub hx hb dX9_tryMove_38 ?_
  refine lv_topi (fun v39 e39 => ?_)
  have hf := nx_at e39 hf
  refine lv_istore (lv' := [(4, .int v39), (3, .int v19), (0, .ref (eB E + 40)), (1, .int x1), (2, .int x2)]) hx hb dX9_tryMove_39 hl (by decide) rfl (fun ls hl => ?_)
  refine lv_iload_n hx hb dX9_tryMove_41 rfl (lv_at hl 1 rfl) ?_
  refine lv_iload_n hx hb dX9_tryMove_42 rfl (lv_at hl 1 rfl) ?_
  refine lv_imul hx hb dX9_tryMove_43 ?_
  refine lv_iload hx hb dX9_tryMove_44 (lv_at hl 0 rfl) ?_
  refine lv_iload hx hb dX9_tryMove_46 (lv_at hl 0 rfl) ?_
  refine lv_imul hx hb dX9_tryMove_48 ?_
  refine lv_iadd hx hb dX9_tryMove_49 ?_
  refine lv_aload_n hx hb dX9_tryMove_50 rfl (lv_at hl 2 rfl) ?_
  refine x_get hx hb hown hts hK hR kX9 (z_40 b) (j := 1) (by decide) fl_X9_50 (v := .ref (eB E + 1)) rfl dX9_tryMove_51 ?_
  refine x_get hx hb hown hts hK hR kX8 (z_1 b) (j := 3) (by decide) fl_X9_81 (v := .ref (eB E + 4)) rfl dX9_tryMove_54 ?_
  refine lv_iload_n hx hb dX9_tryMove_57 rfl (lv_at hl 3 rfl) ?_
  obtain ⟨g58, hf⟩ := br_g hf
  refine x_iald hx hb hK hR (z_4 b) g58 dX9_tryMove_58 ?_
  refine lv_imul hx hb dX9_tryMove_59 ?_
  refine lv_topi (fun v60 e60 => ?_)
  have hf := nx_at e60 hf
  refine lv_istore (lv' := [(5, .int v60), (4, .int v39), (3, .int v19), (0, .ref (eB E + 40)), (1, .int x1), (2, .int x2)]) hx hb dX9_tryMove_60 hl (by decide) rfl (fun ls hl => ?_)
  refine lv_aload_n hx hb dX9_tryMove_62 rfl (lv_at hl 3 rfl) ?_
  refine x_get hx hb hown hts hK hR kX9 (z_40 b) (j := 8) (by decide) fl_X9_31 (v := .int (M.1 40 8)) rfl dX9_tryMove_63 ?_
  refine lv_iconst (v := -1) hx hb dX9_tryMove_66 (by decide) ?_
  refine lv_icmp_eq (tgt := 80) hx hb dX9_tryMove_67 (by decide) (fun q67 => ?_) (fun q67 => ?_)
  · have hf := (br_if hf).1 q67
    exact wX9_tryMove_80 X hf hR (lv_sub hl [3, 4, 5, 0] rfl)
  · have hf := (br_if hf).2 q67
    refine lv_iload hx hb dX9_tryMove_70 (lv_at hl 0 rfl) ?_
    refine lv_aload_n hx hb dX9_tryMove_72 rfl (lv_at hl 3 rfl) ?_
    refine x_get hx hb hown hts hK hR kX9 (z_40 b) (j := 8) (by decide) fl_X9_31 (v := .int (M.1 40 8)) rfl dX9_tryMove_73 ?_
    refine lv_icmp_lt (tgt := 80) hx hb dX9_tryMove_76 (by decide) (fun q76 => ?_) (fun q76 => ?_)
    · have hf := (br_if hf).1 q76
      exact wX9_tryMove_80 X hf hR (lv_sub hl [3, 4, 5, 0] rfl)
    · have hf := (br_if hf).2 q76
      cases hf
      exact x_vret hx hb hr hlk hR dX9_tryMove_79
theorem ctX9_tryMove {l : Launch} {E : Ge} {b : Bool} {M : Mem} {x1 : Int32} {x2 : Int32} {M1 : Mem} (h : fX9_tryMove x1 x2 M = some M1) : CT l E yX9_tryMove cX9_tryMove 6 none 5 0 0 [.ref (eB E + 40), .int x1, .int x2] none (sh_ b) (nn b) M (sh_ b) (nn b) M1 := by
  refine met_of (by decide) (Nat.le_of_ble_eq_true rfl) ?_
  intro p e s m args below meth c X _ hR ls hl
  exact wX9_tryMove_0 X h hR hl
def fX9_findMove_108 (k131 : Int32 → Mem → Option Mem) : Nat → Int32 → Int32 → Mem → Option Mem
  | 0, _, _, _ => none
  | n + 1, x1, x2, M => (if (M.1 1 8) ≤ x2 then k131 x1 M else (fX9_tryMove x1 x2 M).bind (fun q122 => nx (x2 + (1 : Int32)) (fun v125 => fX9_findMove_108 k131 n x1 v125 q122)))
def fX9_findMove_131 (k68 : Int32 → Mem → Option Mem) (k137 : Mem → Option Mem) (x1 : Int32) (M : Mem) : Option Mem := nx (x1 + (1 : Int32)) (fun v131 => k68 v131 M)
def fX9_findMove_68 (k137 : Mem → Option Mem) : Nat → Int32 → Mem → Option Mem
  | 0, _, _ => none
  | n + 1, x1, M => (if (M.1 1 0) ≤ x1 then k137 M else (if inb x1 15 = true then (if inb x1 15 = true then (fX9_fillWays_41 x1 (M.1 2 (ix x1)) (M.1 3 (ix x1)) M).bind (fun q103 => fX9_findMove_108 (fX9_findMove_131 (fX9_findMove_68 k137 n) k137) FU x1 (0 : Int32) q103) else none) else none))
def fX9_findMove_137 (M : Mem) : Option Mem := some M
def fX9_findMove_29 (M : Mem) : Option Mem := nx (sI M 40 9 (M.1 1 14)) (fun M37 => nx (sI M37 40 10 (M37.1 1 15)) (fun M48 => nx (sI M48 40 6 (-1 : Int32)) (fun M53 => nx (sI M53 40 7 (-1 : Int32)) (fun M58 => nx (sI M58 40 8 (-1 : Int32)) (fun M63 => fX9_findMove_68 fX9_findMove_137 FU (0 : Int32) M63)))))
def fX9_findMove (M : Mem) : Option Mem := (if (M.1 40 9) = (M.1 1 14) then (if (M.1 40 10) = (M.1 1 15) then some M else fX9_findMove_29 M) else fX9_findMove_29 M)
set_option maxHeartbeats 4000000 in
set_option maxRecDepth 100000 in
theorem wX9_findMove_108 {M1 : Mem} {k131 : Int32 → Mem → Option Mem} (X : CX E p s m args c meth cX9_findMove 3 none RX9) (hk131 : ∀ {x1 : Int32} {M : Mem} {H : Heap} {locs : List Loc} {ls : Array Slot}, k131 x1 M = some M1 → Rl E (sh_ b) (nn b) s.heap M H locs → lv_has ls 3 [(0, .ref (eB E + 40)), (1, .int x1)] → W p l e (rm 6 0 0) s m args below meth c H locs 0 0 (MQ below (qq E none (sh_ b) (nn b) M1) args s 0 0 (fr E)) (F0 m 131 ls [])) : ∀ (n : Nat) {x1 : Int32} {x2 : Int32} {M : Mem} {H : Heap} {locs : List Loc} {ls : Array Slot}, fX9_findMove_108 k131 n x1 x2 M = some M1 → Rl E (sh_ b) (nn b) s.heap M H locs → lv_has ls 3 [(0, .ref (eB E + 40)), (1, .int x1), (2, .int x2)] → W p l e (rm 6 0 0) s m args below meth c H locs 0 0 (MQ below (qq E none (sh_ b) (nn b) M1) args s 0 0 (fr E)) (F0 m 108 ls []) := by
  obtain ⟨hx, hb, hr, hml, hown, hts, hK, hN, hO, hlk, hbs⟩ := id X
  intro n
  induction n with
  | zero =>
    intro x1 x2 M H locs ls hf hR hl
    exact absurd (show none = some _ from hf) (fun h => by cases h)
  | succ n ih =>
    intro x1 x2 M H locs ls hf hR hl
    rw [fX9_findMove_108] at hf
    refine lv_iload_n hx hb dX9_findMove_108 rfl (lv_at hl 2 rfl) ?_
    refine lv_aload_n hx hb dX9_findMove_109 rfl (lv_at hl 0 rfl) ?_
    refine x_get hx hb hown hts hK hR kX9 (z_40 b) (j := 1) (by decide) fl_X9_50 (v := .ref (eB E + 1)) rfl dX9_findMove_110 ?_
    refine x_get hx hb hown hts hK hR kX8 (z_1 b) (j := 8) (by decide) fl_X9_68 (v := .int (M.1 1 8)) rfl dX9_findMove_113 ?_
    refine lv_icmp_ge (tgt := 131) hx hb dX9_findMove_116 (by decide) (fun q116 => ?_) (fun q116 => ?_)
    · have hf := (br_if hf).1 q116
      exact hk131 hf hR (lv_sub hl [0, 1] rfl)
    · have hf := (br_if hf).2 q116
      refine lv_aload_n hx hb dX9_findMove_119 rfl (lv_at hl 0 rfl) ?_
      refine lv_iload_n hx hb dX9_findMove_120 rfl (lv_at hl 1 rfl) ?_
      refine lv_iload_n hx hb dX9_findMove_121 rfl (lv_at hl 2 rfl) ?_
      obtain ⟨q122, c122, hf⟩ := br_b hf
      refine x_callV (k := 40) (As := [.int x1, .int x2]) (rest := []) (st1 := []) X hR (ctX9_tryMove c122) ml_X9_71 im_X9_tryMove se_X9_tryMove in_X9 co_X9_tryMove yo_X9_tryMove rfl kX9 (z_40 b) (rm_ok (by decide) (by decide)) rfl hl.1 rfl rfl (Nat.le_of_ble_eq_true rfl) dX9_findMove_122 ⟨Nat.zero_le _, Nat.zero_le _⟩ (fun H locs hR => ?_)
      obtain ⟨v125, e125⟩ : ∃ y : Int32, y = (x2 + (1 : Int32)) := ⟨_, rfl⟩
      have hf := nx_at e125 hf
      refine lv_iinc (v := v125) (lv' := [(2, .int v125), (0, .ref (eB E + 40)), (1, .int x1)]) hx hb dX9_findMove_125 hl (k := 2) rfl (by rw [e125]; rfl) (by decide) rfl (fun ls hl => ?_)
      refine lv_goto (tgt := 108) hx hb dX9_findMove_128 (by decide) ?_
      exact ih hf hR (lv_sub hl [1, 2, 0] rfl)
set_option maxHeartbeats 4000000 in
set_option maxRecDepth 100000 in
theorem wX9_findMove_131 {M1 : Mem} {k68 : Int32 → Mem → Option Mem} {k137 : Mem → Option Mem} (X : CX E p s m args c meth cX9_findMove 3 none RX9) (hk68 : ∀ {x1 : Int32} {M : Mem} {H : Heap} {locs : List Loc} {ls : Array Slot}, k68 x1 M = some M1 → Rl E (sh_ b) (nn b) s.heap M H locs → lv_has ls 3 [(0, .ref (eB E + 40)), (1, .int x1)] → W p l e (rm 6 0 0) s m args below meth c H locs 0 0 (MQ below (qq E none (sh_ b) (nn b) M1) args s 0 0 (fr E)) (F0 m 68 ls [])) (hk137 : ∀ {M : Mem} {H : Heap} {locs : List Loc} {ls : Array Slot}, k137 M = some M1 → Rl E (sh_ b) (nn b) s.heap M H locs → lv_has ls 3 [] → W p l e (rm 6 0 0) s m args below meth c H locs 0 0 (MQ below (qq E none (sh_ b) (nn b) M1) args s 0 0 (fr E)) (F0 m 137 ls [])) : ∀ {x1 : Int32} {M : Mem} {H : Heap} {locs : List Loc} {ls : Array Slot}, fX9_findMove_131 k68 k137 x1 M = some M1 → Rl E (sh_ b) (nn b) s.heap M H locs → lv_has ls 3 [(0, .ref (eB E + 40)), (1, .int x1)] → W p l e (rm 6 0 0) s m args below meth c H locs 0 0 (MQ below (qq E none (sh_ b) (nn b) M1) args s 0 0 (fr E)) (F0 m 131 ls []) := by
  obtain ⟨hx, hb, hr, hml, hown, hts, hK, hN, hO, hlk, hbs⟩ := id X
  intro x1 M H locs ls hf hR hl
  unfold fX9_findMove_131 at hf
  obtain ⟨v131, e131⟩ : ∃ y : Int32, y = (x1 + (1 : Int32)) := ⟨_, rfl⟩
  have hf := nx_at e131 hf
  refine lv_iinc (v := v131) (lv' := [(1, .int v131), (0, .ref (eB E + 40))]) hx hb dX9_findMove_131 hl (k := 1) rfl (by rw [e131]; rfl) (by decide) rfl (fun ls hl => ?_)
  refine lv_goto (tgt := 68) hx hb dX9_findMove_134 (by decide) ?_
  exact hk68 hf hR (lv_sub hl [1, 0] rfl)
set_option maxHeartbeats 4000000 in
set_option maxRecDepth 100000 in
theorem wX9_findMove_68 {M1 : Mem} {k137 : Mem → Option Mem} (X : CX E p s m args c meth cX9_findMove 3 none RX9) (hk137 : ∀ {M : Mem} {H : Heap} {locs : List Loc} {ls : Array Slot}, k137 M = some M1 → Rl E (sh_ b) (nn b) s.heap M H locs → lv_has ls 3 [] → W p l e (rm 6 0 0) s m args below meth c H locs 0 0 (MQ below (qq E none (sh_ b) (nn b) M1) args s 0 0 (fr E)) (F0 m 137 ls [])) : ∀ (n : Nat) {x1 : Int32} {M : Mem} {H : Heap} {locs : List Loc} {ls : Array Slot}, fX9_findMove_68 k137 n x1 M = some M1 → Rl E (sh_ b) (nn b) s.heap M H locs → lv_has ls 3 [(0, .ref (eB E + 40)), (1, .int x1)] → W p l e (rm 6 0 0) s m args below meth c H locs 0 0 (MQ below (qq E none (sh_ b) (nn b) M1) args s 0 0 (fr E)) (F0 m 68 ls []) := by
  obtain ⟨hx, hb, hr, hml, hown, hts, hK, hN, hO, hlk, hbs⟩ := id X
  intro n
  induction n with
  | zero =>
    intro x1 M H locs ls hf hR hl
    exact absurd (show none = some _ from hf) (fun h => by cases h)
  | succ n ih =>
    intro x1 M H locs ls hf hR hl
    rw [fX9_findMove_68] at hf
    refine lv_iload_n hx hb dX9_findMove_68 rfl (lv_at hl 1 rfl) ?_
    refine lv_aload_n hx hb dX9_findMove_69 rfl (lv_at hl 0 rfl) ?_
    refine x_get hx hb hown hts hK hR kX9 (z_40 b) (j := 1) (by decide) fl_X9_50 (v := .ref (eB E + 1)) rfl dX9_findMove_70 ?_
    refine x_get hx hb hown hts hK hR kX8 (z_1 b) (j := 0) (by decide) fl_X9_55 (v := .int (M.1 1 0)) rfl dX9_findMove_73 ?_
    refine lv_icmp_ge (tgt := 137) hx hb dX9_findMove_76 (by decide) (fun q76 => ?_) (fun q76 => ?_)
    · have hf := (br_if hf).1 q76
      exact hk137 hf hR (lv_sub hl [] rfl)
    · have hf := (br_if hf).2 q76
      refine lv_aload_n hx hb dX9_findMove_79 rfl (lv_at hl 0 rfl) ?_
      refine lv_iload_n hx hb dX9_findMove_80 rfl (lv_at hl 1 rfl) ?_
      refine lv_aload_n hx hb dX9_findMove_81 rfl (lv_at hl 0 rfl) ?_
      refine x_get hx hb hown hts hK hR kX9 (z_40 b) (j := 1) (by decide) fl_X9_50 (v := .ref (eB E + 1)) rfl dX9_findMove_82 ?_
      refine x_get hx hb hown hts hK hR kX8 (z_1 b) (j := 1) (by decide) fl_X9_58 (v := .ref (eB E + 2)) rfl dX9_findMove_85 ?_
      refine lv_iload_n hx hb dX9_findMove_88 rfl (lv_at hl 1 rfl) ?_
      obtain ⟨g89, hf⟩ := br_g hf
      refine x_iald hx hb hK hR (z_2 b) g89 dX9_findMove_89 ?_
      refine lv_aload_n hx hb dX9_findMove_90 rfl (lv_at hl 0 rfl) ?_
      refine x_get hx hb hown hts hK hR kX9 (z_40 b) (j := 1) (by decide) fl_X9_50 (v := .ref (eB E + 1)) rfl dX9_findMove_91 ?_
      refine x_get hx hb hown hts hK hR kX8 (z_1 b) (j := 2) (by decide) fl_X9_61 (v := .ref (eB E + 3)) rfl dX9_findMove_94 ?_
      refine lv_iload_n hx hb dX9_findMove_97 rfl (lv_at hl 1 rfl) ?_
      obtain ⟨g98, hf⟩ := br_g hf
      refine x_iald hx hb hK hR (z_3 b) g98 dX9_findMove_98 ?_
      refine lv_aload_n hx hb dX9_findMove_99 rfl (lv_at hl 0 rfl) ?_
      refine x_get hx hb hown hts hK hR kX9 (z_40 b) (j := 2) (by decide) fl_X9_9 (v := .ref (eB E + 41)) rfl dX9_findMove_100 ?_
      obtain ⟨q103, c103, hf⟩ := br_b hf
      refine x_callV (k := 40) (As := [.int x1, .int (M.1 2 (ix x1)), .int (M.1 3 (ix x1)), .ref (eB E + 41)]) (rest := []) (st1 := []) X hR (ctX9_fillWays_41 c103) ml_X9_64 im_X9_fillWays se_X9_fillWays in_X9 co_X9_fillWays yo_X9_fillWays rfl kX9 (z_40 b) (rm_ok (by decide) (by decide)) rfl hl.1 rfl rfl (Nat.le_of_ble_eq_true rfl) dX9_findMove_103 ⟨Nat.zero_le _, Nat.zero_le _⟩ (fun H locs hR => ?_)
      refine lv_iconst (v := 0) hx hb dX9_findMove_106 (by decide) ?_
      refine lv_istore_n (lv' := [(2, .int (0 : Int32)), (0, .ref (eB E + 40)), (1, .int x1)]) hx hb dX9_findMove_107 rfl hl (by decide) rfl (fun ls hl => ?_)
      exact wX9_findMove_108 X (fun hf hR hl => wX9_findMove_131 X (fun hf hR hl => ih hf hR hl) (fun hf hR hl => hk137 hf hR hl) hf hR hl) FU hf hR (lv_sub hl [1, 2, 0] rfl)
set_option maxHeartbeats 4000000 in
set_option maxRecDepth 100000 in
theorem wX9_findMove_137 {M1 : Mem} (X : CX E p s m args c meth cX9_findMove 3 none RX9) : ∀ {M : Mem} {H : Heap} {locs : List Loc} {ls : Array Slot}, fX9_findMove_137 M = some M1 → Rl E (sh_ b) (nn b) s.heap M H locs → lv_has ls 3 [] → W p l e (rm 6 0 0) s m args below meth c H locs 0 0 (MQ below (qq E none (sh_ b) (nn b) M1) args s 0 0 (fr E)) (F0 m 137 ls []) := by
  obtain ⟨hx, hb, hr, hml, hown, hts, hK, hN, hO, hlk, hbs⟩ := id X
  intro M H locs ls hf hR hl
  unfold fX9_findMove_137 at hf
  cases hf
  exact x_vret hx hb hr hlk hR dX9_findMove_137
set_option maxHeartbeats 4000000 in
set_option maxRecDepth 100000 in
theorem wX9_findMove_29 {M1 : Mem} (X : CX E p s m args c meth cX9_findMove 3 none RX9) : ∀ {M : Mem} {H : Heap} {locs : List Loc} {ls : Array Slot}, fX9_findMove_29 M = some M1 → Rl E (sh_ b) (nn b) s.heap M H locs → lv_has ls 3 [(0, .ref (eB E + 40))] → W p l e (rm 6 0 0) s m args below meth c H locs 0 0 (MQ below (qq E none (sh_ b) (nn b) M1) args s 0 0 (fr E)) (F0 m 29 ls []) := by
  obtain ⟨hx, hb, hr, hml, hown, hts, hK, hN, hO, hlk, hbs⟩ := id X
  intro M H locs ls hf hR hl
  unfold fX9_findMove_29 at hf
  refine lv_aload_n hx hb dX9_findMove_29 rfl (lv_at hl 0 rfl) ?_
  refine lv_aload_n hx hb dX9_findMove_30 rfl (lv_at hl 0 rfl) ?_
  refine x_get hx hb hown hts hK hR kX9 (z_40 b) (j := 1) (by decide) fl_X9_50 (v := .ref (eB E + 1)) rfl dX9_findMove_31 ?_
  refine x_get hx hb hown hts hK hR kX8 (z_1 b) (j := 14) (by decide) fl_X9_51 (v := .int (M.1 1 14)) rfl dX9_findMove_34 ?_
  refine x_puti hx hb hown hts hK hR kX9 (z_40 b) (j := 9) (by decide) fl_X9_34 rfl rfl rfl rfl dX9_findMove_37 (fun H locs hR => ?_)
  obtain ⟨M37, e37⟩ : ∃ y : Mem, y = (sI M 40 9 (M.1 1 14)) := ⟨_, rfl⟩
  have hf := nx_at e37 hf
  have hR : Rl E (sh_ b) (nn b) s.heap M37 H locs := by rw [e37]; exact hR
  refine lv_aload_n hx hb dX9_findMove_40 rfl (lv_at hl 0 rfl) ?_
  refine lv_aload_n hx hb dX9_findMove_41 rfl (lv_at hl 0 rfl) ?_
  refine x_get hx hb hown hts hK hR kX9 (z_40 b) (j := 1) (by decide) fl_X9_50 (v := .ref (eB E + 1)) rfl dX9_findMove_42 ?_
  refine x_get hx hb hown hts hK hR kX8 (z_1 b) (j := 15) (by decide) fl_X9_54 (v := .int (M37.1 1 15)) rfl dX9_findMove_45 ?_
  refine x_puti hx hb hown hts hK hR kX9 (z_40 b) (j := 10) (by decide) fl_X9_37 rfl rfl rfl rfl dX9_findMove_48 (fun H locs hR => ?_)
  obtain ⟨M48, e48⟩ : ∃ y : Mem, y = (sI M37 40 10 (M37.1 1 15)) := ⟨_, rfl⟩
  have hf := nx_at e48 hf
  have hR : Rl E (sh_ b) (nn b) s.heap M48 H locs := by rw [e48]; exact hR
  refine lv_aload_n hx hb dX9_findMove_51 rfl (lv_at hl 0 rfl) ?_
  refine lv_iconst (v := -1) hx hb dX9_findMove_52 (by decide) ?_
  refine x_puti hx hb hown hts hK hR kX9 (z_40 b) (j := 6) (by decide) fl_X9_24 rfl rfl rfl rfl dX9_findMove_53 (fun H locs hR => ?_)
  obtain ⟨M53, e53⟩ : ∃ y : Mem, y = (sI M48 40 6 (-1 : Int32)) := ⟨_, rfl⟩
  have hf := nx_at e53 hf
  have hR : Rl E (sh_ b) (nn b) s.heap M53 H locs := by rw [e53]; exact hR
  refine lv_aload_n hx hb dX9_findMove_56 rfl (lv_at hl 0 rfl) ?_
  refine lv_iconst (v := -1) hx hb dX9_findMove_57 (by decide) ?_
  refine x_puti hx hb hown hts hK hR kX9 (z_40 b) (j := 7) (by decide) fl_X9_28 rfl rfl rfl rfl dX9_findMove_58 (fun H locs hR => ?_)
  obtain ⟨M58, e58⟩ : ∃ y : Mem, y = (sI M53 40 7 (-1 : Int32)) := ⟨_, rfl⟩
  have hf := nx_at e58 hf
  have hR : Rl E (sh_ b) (nn b) s.heap M58 H locs := by rw [e58]; exact hR
  refine lv_aload_n hx hb dX9_findMove_61 rfl (lv_at hl 0 rfl) ?_
  refine lv_iconst (v := -1) hx hb dX9_findMove_62 (by decide) ?_
  refine x_puti hx hb hown hts hK hR kX9 (z_40 b) (j := 8) (by decide) fl_X9_31 rfl rfl rfl rfl dX9_findMove_63 (fun H locs hR => ?_)
  obtain ⟨M63, e63⟩ : ∃ y : Mem, y = (sI M58 40 8 (-1 : Int32)) := ⟨_, rfl⟩
  have hf := nx_at e63 hf
  have hR : Rl E (sh_ b) (nn b) s.heap M63 H locs := by rw [e63]; exact hR
  refine lv_iconst (v := 0) hx hb dX9_findMove_66 (by decide) ?_
  refine lv_istore_n (lv' := [(1, .int (0 : Int32)), (0, .ref (eB E + 40))]) hx hb dX9_findMove_67 rfl hl (by decide) rfl (fun ls hl => ?_)
  exact wX9_findMove_68 X (fun hf hR hl => wX9_findMove_137 X hf hR hl) FU hf hR (lv_sub hl [1, 0] rfl)
set_option maxHeartbeats 4000000 in
set_option maxRecDepth 100000 in
theorem wX9_findMove_0 {M1 : Mem} (X : CX E p s m args c meth cX9_findMove 3 none RX9) : ∀ {M : Mem} {H : Heap} {locs : List Loc} {ls : Array Slot}, fX9_findMove M = some M1 → Rl E (sh_ b) (nn b) s.heap M H locs → lv_has ls 3 [(0, .ref (eB E + 40))] → W p l e (rm 6 0 0) s m args below meth c H locs 0 0 (MQ below (qq E none (sh_ b) (nn b) M1) args s 0 0 (fr E)) (F0 m 0 ls []) := by
  obtain ⟨hx, hb, hr, hml, hown, hts, hK, hN, hO, hlk, hbs⟩ := id X
  intro M H locs ls hf hR hl
  unfold fX9_findMove at hf
  refine lv_aload_n hx hb dX9_findMove_0 rfl (lv_at hl 0 rfl) ?_
  refine x_get hx hb hown hts hK hR kX9 (z_40 b) (j := 9) (by decide) fl_X9_34 (v := .int (M.1 40 9)) rfl dX9_findMove_1 ?_
  refine lv_aload_n hx hb dX9_findMove_4 rfl (lv_at hl 0 rfl) ?_
  refine x_get hx hb hown hts hK hR kX9 (z_40 b) (j := 1) (by decide) fl_X9_50 (v := .ref (eB E + 1)) rfl dX9_findMove_5 ?_
  refine x_get hx hb hown hts hK hR kX8 (z_1 b) (j := 14) (by decide) fl_X9_51 (v := .int (M.1 1 14)) rfl dX9_findMove_8 ?_
  refine lv_icmp_ne (tgt := 29) hx hb dX9_findMove_11 (by decide) (fun q11 => ?_) (fun q11 => ?_)
  · have hf := (br_if hf).2 q11
    exact wX9_findMove_29 X hf hR hl
  · have hf := (br_if hf).1 q11
    refine lv_aload_n hx hb dX9_findMove_14 rfl (lv_at hl 0 rfl) ?_
    refine x_get hx hb hown hts hK hR kX9 (z_40 b) (j := 10) (by decide) fl_X9_37 (v := .int (M.1 40 10)) rfl dX9_findMove_15 ?_
    refine lv_aload_n hx hb dX9_findMove_18 rfl (lv_at hl 0 rfl) ?_
    refine x_get hx hb hown hts hK hR kX9 (z_40 b) (j := 1) (by decide) fl_X9_50 (v := .ref (eB E + 1)) rfl dX9_findMove_19 ?_
    refine x_get hx hb hown hts hK hR kX8 (z_1 b) (j := 15) (by decide) fl_X9_54 (v := .int (M.1 1 15)) rfl dX9_findMove_22 ?_
    refine lv_icmp_ne (tgt := 29) hx hb dX9_findMove_25 (by decide) (fun q25 => ?_) (fun q25 => ?_)
    · have hf := (br_if hf).2 q25
      exact wX9_findMove_29 X hf hR hl
    · have hf := (br_if hf).1 q25
      cases hf
      exact x_vret hx hb hr hlk hR dX9_findMove_28
theorem ctX9_findMove {l : Launch} {E : Ge} {b : Bool} {M : Mem} {M1 : Mem} (h : fX9_findMove M = some M1) : CT l E yX9_findMove cX9_findMove 3 none 6 0 0 [.ref (eB E + 40)] none (sh_ b) (nn b) M (sh_ b) (nn b) M1 := by
  refine met_of (by decide) (Nat.le_of_ble_eq_true rfl) ?_
  intro p e s m args below meth c X _ hR ls hl
  exact wX9_findMove_0 X h hR hl
def fX9_stancesOf_140 (M : Mem) (k84 : Int32 → Int32 → Int32 → Int32 → Int32 → Int32 → Int32 → Int32 → Int32 → Option Int32) (k153 : Int32 → Option Int32) (k162 : Int32 → Int32 → Int32 → Int32 → Int32 → Int32 → Int32 → Int32 → Option Int32) (x1 : Int32) (x2 : Int32) (x3 : Int32) (x4 : Int32) (x5 : Int32) (x6 : Int32) (x8 : Int32) (x9 : Int32) (s0 : Int32) (s1 : Int32) : Option Int32 := nx (s0 ||| s1) (fun v141 => (if (v141 &&& (v141 - (1 : Int32))) = 0 then nx (x9 + (1 : Int32)) (fun v156 => k84 x1 x2 x3 x4 x5 x6 v141 x8 v156) else k153 v141))
def fX9_stancesOf_84 (M : Mem) (k153 : Int32 → Option Int32) (k162 : Int32 → Int32 → Int32 → Int32 → Int32 → Int32 → Int32 → Int32 → Option Int32) : Nat → Int32 → Int32 → Int32 → Int32 → Int32 → Int32 → Int32 → Int32 → Int32 → Option Int32
  | 0, _, _, _, _, _, _, _, _, _ => none
  | n + 1, x1, x2, x3, x4, x5, x6, x7, x8, x9 => (if x6 < x9 then k162 x1 x2 x3 x4 x5 x6 x7 x8 else (fX9_wayFrom M x1 x8 x9 x2).bind (fun q98 => (fX9_wayFrom M x1 x8 x9 x3).bind (fun q110 => (if q110 ≤ q98 then (if q98 ≤ q110 then fX9_stancesOf_140 M (fX9_stancesOf_84 M k153 k162 n) k153 k162 x1 x2 x3 x4 x5 x6 x8 x9 x7 (4 : Int32) else fX9_stancesOf_140 M (fX9_stancesOf_84 M k153 k162 n) k153 k162 x1 x2 x3 x4 x5 x6 x8 x9 x7 (2 : Int32)) else fX9_stancesOf_140 M (fX9_stancesOf_84 M k153 k162 n) k153 k162 x1 x2 x3 x4 x5 x6 x8 x9 x7 (1 : Int32)))))
def fX9_stancesOf_162 (M : Mem) (k59 : Int32 → Int32 → Int32 → Int32 → Int32 → Int32 → Int32 → Int32 → Option Int32) (k153 : Int32 → Option Int32) (k168 : Int32 → Option Int32) (x1 : Int32) (x2 : Int32) (x3 : Int32) (x4 : Int32) (x5 : Int32) (x6 : Int32) (x7 : Int32) (x8 : Int32) : Option Int32 := nx (x8 + (1 : Int32)) (fun v162 => k59 x1 x2 x3 x4 x5 x6 x7 v162)
def fX9_stancesOf_59 (M : Mem) (k153 : Int32 → Option Int32) (k168 : Int32 → Option Int32) : Nat → Int32 → Int32 → Int32 → Int32 → Int32 → Int32 → Int32 → Int32 → Option Int32
  | 0, _, _, _, _, _, _, _, _ => none
  | n + 1, x1, x2, x3, x4, x5, x6, x7, x8 => (if x5 < x8 then k168 x7 else (if inb x1 15 = true then nx (imax (0 : Int32) ((M.1 3 (ix x1)) - x4)) (fun v82 => fX9_stancesOf_84 M k153 (fX9_stancesOf_162 M (fX9_stancesOf_59 M k153 k168 n) k153 k168) FU x1 x2 x3 x4 x5 x6 x7 x8 v82) else none))
def fX9_stancesOf_153 (M : Mem) (x7 : Int32) : Option Int32 := some x7
def fX9_stancesOf_168 (M : Mem) (x7 : Int32) : Option Int32 := some x7
def fX9_stancesOf (M : Mem) (x1 : Int32) (x2 : Int32) (x3 : Int32) (x4 : Int32) : Option Int32 := (if inb x1 15 = true then nx (imin (99 : Int32) ((M.1 2 (ix x1)) + x4)) (fun v17 => (if inb x1 15 = true then nx (imin (99 : Int32) ((M.1 3 (ix x1)) + x4)) (fun v36 => (if inb x1 15 = true then nx (imax (0 : Int32) ((M.1 2 (ix x1)) - x4)) (fun v57 => fX9_stancesOf_59 M (fX9_stancesOf_153 M) (fX9_stancesOf_168 M) FU x1 x2 x3 x4 v17 v36 (0 : Int32) v57) else none)) else none)) else none)
set_option maxHeartbeats 4000000 in
set_option maxRecDepth 100000 in
theorem wX9_stancesOf_140 {r : Int32} {M : Mem} {k84 : Int32 → Int32 → Int32 → Int32 → Int32 → Int32 → Int32 → Int32 → Int32 → Option Int32} {k153 : Int32 → Option Int32} {k162 : Int32 → Int32 → Int32 → Int32 → Int32 → Int32 → Int32 → Int32 → Option Int32} (X : CX E p s m args c meth cX9_stancesOf 12 (some .int) RX9) (hk84 : ∀ {x1 : Int32} {x2 : Int32} {x3 : Int32} {x4 : Int32} {x5 : Int32} {x6 : Int32} {x7 : Int32} {x8 : Int32} {x9 : Int32} {H : Heap} {locs : List Loc} {ls : Array Slot}, k84 x1 x2 x3 x4 x5 x6 x7 x8 x9 = some r → Rl E (sh_ b) (nn b) s.heap M H locs → lv_has ls 12 [(0, .ref (eB E + 40)), (1, .int x1), (2, .int x2), (3, .int x3), (4, .int x4), (5, .int x5), (6, .int x6), (7, .int x7), (8, .int x8), (9, .int x9)] → W p l e (rm 4 0 0) s m args below meth c H locs 0 0 (MQ below (qq E (some (.int r)) (sh_ b) (nn b) M) args s 0 0 (fr E)) (F0 m 84 ls [])) (hk153 : ∀ {x7 : Int32} {H : Heap} {locs : List Loc} {ls : Array Slot}, k153 x7 = some r → Rl E (sh_ b) (nn b) s.heap M H locs → lv_has ls 12 [(7, .int x7)] → W p l e (rm 4 0 0) s m args below meth c H locs 0 0 (MQ below (qq E (some (.int r)) (sh_ b) (nn b) M) args s 0 0 (fr E)) (F0 m 153 ls [])) (hk162 : ∀ {x1 : Int32} {x2 : Int32} {x3 : Int32} {x4 : Int32} {x5 : Int32} {x6 : Int32} {x7 : Int32} {x8 : Int32} {H : Heap} {locs : List Loc} {ls : Array Slot}, k162 x1 x2 x3 x4 x5 x6 x7 x8 = some r → Rl E (sh_ b) (nn b) s.heap M H locs → lv_has ls 12 [(0, .ref (eB E + 40)), (1, .int x1), (2, .int x2), (3, .int x3), (4, .int x4), (5, .int x5), (6, .int x6), (7, .int x7), (8, .int x8)] → W p l e (rm 4 0 0) s m args below meth c H locs 0 0 (MQ below (qq E (some (.int r)) (sh_ b) (nn b) M) args s 0 0 (fr E)) (F0 m 162 ls [])) : ∀ {x1 : Int32} {x2 : Int32} {x3 : Int32} {x4 : Int32} {x5 : Int32} {x6 : Int32} {x8 : Int32} {x9 : Int32} {s0 : Int32} {s1 : Int32} {H : Heap} {locs : List Loc} {ls : Array Slot}, fX9_stancesOf_140 M k84 k153 k162 x1 x2 x3 x4 x5 x6 x8 x9 s0 s1 = some r → Rl E (sh_ b) (nn b) s.heap M H locs → lv_has ls 12 [(0, .ref (eB E + 40)), (1, .int x1), (2, .int x2), (3, .int x3), (4, .int x4), (5, .int x5), (6, .int x6), (8, .int x8), (9, .int x9)] → W p l e (rm 4 0 0) s m args below meth c H locs 0 0 (MQ below (qq E (some (.int r)) (sh_ b) (nn b) M) args s 0 0 (fr E)) (F0 m 140 ls [.int s1, .int s0]) := by
  obtain ⟨hx, hb, hr, hml, hown, hts, hK, hN, hO, hlk, hbs⟩ := id X
  intro x1 x2 x3 x4 x5 x6 x8 x9 s0 s1 H locs ls hf hR hl
  unfold fX9_stancesOf_140 at hf
  refine lv_ior hx hb dX9_stancesOf_140 ?_
  refine lv_topi (fun v141 e141 => ?_)
  have hf := nx_at e141 hf
  refine lv_istore (lv' := [(7, .int v141), (0, .ref (eB E + 40)), (1, .int x1), (2, .int x2), (3, .int x3), (4, .int x4), (5, .int x5), (6, .int x6), (8, .int x8), (9, .int x9)]) hx hb dX9_stancesOf_141 hl (by decide) rfl (fun ls hl => ?_)
  refine lv_iload hx hb dX9_stancesOf_143 (lv_at hl 0 rfl) ?_
  refine lv_iload hx hb dX9_stancesOf_145 (lv_at hl 0 rfl) ?_
  refine lv_iconst (v := 1) hx hb dX9_stancesOf_147 (by decide) ?_
  refine lv_isub hx hb dX9_stancesOf_148 ?_
  refine lv_iand hx hb dX9_stancesOf_149 ?_
  refine lv_if_eq (tgt := 156) hx hb dX9_stancesOf_150 (by decide) (fun q150 => ?_) (fun q150 => ?_)
  · have hf := (br_if hf).1 q150
    obtain ⟨v156, e156⟩ : ∃ y : Int32, y = (x9 + (1 : Int32)) := ⟨_, rfl⟩
    have hf := nx_at e156 hf
    refine lv_iinc (v := v156) (lv' := [(9, .int v156), (7, .int v141), (0, .ref (eB E + 40)), (1, .int x1), (2, .int x2), (3, .int x3), (4, .int x4), (5, .int x5), (6, .int x6), (8, .int x8)]) hx hb dX9_stancesOf_156 hl (k := 9) rfl (by rw [e156]; rfl) (by decide) rfl (fun ls hl => ?_)
    refine lv_goto (tgt := 84) hx hb dX9_stancesOf_159 (by decide) ?_
    exact hk84 hf hR (lv_sub hl [2, 3, 4, 5, 6, 7, 8, 1, 9, 0] rfl)
  · have hf := (br_if hf).2 q150
    exact hk153 hf hR (lv_sub hl [0] rfl)
set_option maxHeartbeats 4000000 in
set_option maxRecDepth 100000 in
theorem wX9_stancesOf_84 {r : Int32} {M : Mem} {k153 : Int32 → Option Int32} {k162 : Int32 → Int32 → Int32 → Int32 → Int32 → Int32 → Int32 → Int32 → Option Int32} (X : CX E p s m args c meth cX9_stancesOf 12 (some .int) RX9) (hk153 : ∀ {x7 : Int32} {H : Heap} {locs : List Loc} {ls : Array Slot}, k153 x7 = some r → Rl E (sh_ b) (nn b) s.heap M H locs → lv_has ls 12 [(7, .int x7)] → W p l e (rm 4 0 0) s m args below meth c H locs 0 0 (MQ below (qq E (some (.int r)) (sh_ b) (nn b) M) args s 0 0 (fr E)) (F0 m 153 ls [])) (hk162 : ∀ {x1 : Int32} {x2 : Int32} {x3 : Int32} {x4 : Int32} {x5 : Int32} {x6 : Int32} {x7 : Int32} {x8 : Int32} {H : Heap} {locs : List Loc} {ls : Array Slot}, k162 x1 x2 x3 x4 x5 x6 x7 x8 = some r → Rl E (sh_ b) (nn b) s.heap M H locs → lv_has ls 12 [(0, .ref (eB E + 40)), (1, .int x1), (2, .int x2), (3, .int x3), (4, .int x4), (5, .int x5), (6, .int x6), (7, .int x7), (8, .int x8)] → W p l e (rm 4 0 0) s m args below meth c H locs 0 0 (MQ below (qq E (some (.int r)) (sh_ b) (nn b) M) args s 0 0 (fr E)) (F0 m 162 ls [])) : ∀ (n : Nat) {x1 : Int32} {x2 : Int32} {x3 : Int32} {x4 : Int32} {x5 : Int32} {x6 : Int32} {x7 : Int32} {x8 : Int32} {x9 : Int32} {H : Heap} {locs : List Loc} {ls : Array Slot}, fX9_stancesOf_84 M k153 k162 n x1 x2 x3 x4 x5 x6 x7 x8 x9 = some r → Rl E (sh_ b) (nn b) s.heap M H locs → lv_has ls 12 [(0, .ref (eB E + 40)), (1, .int x1), (2, .int x2), (3, .int x3), (4, .int x4), (5, .int x5), (6, .int x6), (7, .int x7), (8, .int x8), (9, .int x9)] → W p l e (rm 4 0 0) s m args below meth c H locs 0 0 (MQ below (qq E (some (.int r)) (sh_ b) (nn b) M) args s 0 0 (fr E)) (F0 m 84 ls []) := by
  obtain ⟨hx, hb, hr, hml, hown, hts, hK, hN, hO, hlk, hbs⟩ := id X
  intro n
  induction n with
  | zero =>
    intro x1 x2 x3 x4 x5 x6 x7 x8 x9 H locs ls hf hR hl
    exact absurd (show none = some _ from hf) (fun h => by cases h)
  | succ n ih =>
    intro x1 x2 x3 x4 x5 x6 x7 x8 x9 H locs ls hf hR hl
    rw [fX9_stancesOf_84] at hf
    refine lv_iload hx hb dX9_stancesOf_84 (lv_at hl 9 rfl) ?_
    refine lv_iload hx hb dX9_stancesOf_86 (lv_at hl 6 rfl) ?_
    refine lv_icmp_gt (tgt := 162) hx hb dX9_stancesOf_88 (by decide) (fun q88 => ?_) (fun q88 => ?_)
    · have hf := (br_if hf).1 q88
      exact hk162 hf hR (lv_sub hl [0, 1, 2, 3, 4, 5, 6, 7, 8] rfl)
    · have hf := (br_if hf).2 q88
      refine lv_aload_n hx hb dX9_stancesOf_91 rfl (lv_at hl 0 rfl) ?_
      refine lv_iload_n hx hb dX9_stancesOf_92 rfl (lv_at hl 1 rfl) ?_
      refine lv_iload hx hb dX9_stancesOf_93 (lv_at hl 8 rfl) ?_
      refine lv_iload hx hb dX9_stancesOf_95 (lv_at hl 9 rfl) ?_
      refine lv_iload_n hx hb dX9_stancesOf_97 rfl (lv_at hl 2 rfl) ?_
      obtain ⟨q98, c98, hf⟩ := br_b hf
      refine x_callV (k := 40) (As := [.int x1, .int x8, .int x9, .int x2]) (rest := []) (st1 := [.int q98]) X hR (ctX9_wayFrom c98) ml_X9_88 im_X9_wayFrom se_X9_wayFrom in_X9 co_X9_wayFrom yo_X9_wayFrom rfl kX9 (z_40 b) (rm_ok (by decide) (by decide)) rfl hl.1 rfl rfl (Nat.le_of_ble_eq_true rfl) dX9_stancesOf_98 ⟨Nat.zero_le _, Nat.zero_le _⟩ (fun H locs hR => ?_)
      refine lv_istore (lv' := [(10, .int q98), (0, .ref (eB E + 40)), (1, .int x1), (2, .int x2), (3, .int x3), (4, .int x4), (5, .int x5), (6, .int x6), (7, .int x7), (8, .int x8), (9, .int x9)]) hx hb dX9_stancesOf_101 hl (by decide) rfl (fun ls hl => ?_)
      refine lv_aload_n hx hb dX9_stancesOf_103 rfl (lv_at hl 1 rfl) ?_
      refine lv_iload_n hx hb dX9_stancesOf_104 rfl (lv_at hl 2 rfl) ?_
      refine lv_iload hx hb dX9_stancesOf_105 (lv_at hl 9 rfl) ?_
      refine lv_iload hx hb dX9_stancesOf_107 (lv_at hl 10 rfl) ?_
      refine lv_iload_n hx hb dX9_stancesOf_109 rfl (lv_at hl 4 rfl) ?_
      obtain ⟨q110, c110, hf⟩ := br_b hf
      refine x_callV (k := 40) (As := [.int x1, .int x8, .int x9, .int x3]) (rest := []) (st1 := [.int q110]) X hR (ctX9_wayFrom c110) ml_X9_88 im_X9_wayFrom se_X9_wayFrom in_X9 co_X9_wayFrom yo_X9_wayFrom rfl kX9 (z_40 b) (rm_ok (by decide) (by decide)) rfl hl.1 rfl rfl (Nat.le_of_ble_eq_true rfl) dX9_stancesOf_110 ⟨Nat.zero_le _, Nat.zero_le _⟩ (fun H locs hR => ?_)
      refine lv_istore (lv' := [(11, .int q110), (10, .int q98), (0, .ref (eB E + 40)), (1, .int x1), (2, .int x2), (3, .int x3), (4, .int x4), (5, .int x5), (6, .int x6), (7, .int x7), (8, .int x8), (9, .int x9)]) hx hb dX9_stancesOf_113 hl (by decide) rfl (fun ls hl => ?_)
      refine lv_iload hx hb dX9_stancesOf_115 (lv_at hl 9 rfl) ?_
      refine lv_iload hx hb dX9_stancesOf_117 (lv_at hl 1 rfl) ?_
      refine lv_iload hx hb dX9_stancesOf_119 (lv_at hl 0 rfl) ?_
      refine lv_icmp_ge (tgt := 128) hx hb dX9_stancesOf_121 (by decide) (fun q121 => ?_) (fun q121 => ?_)
      · have hf := (br_if hf).1 q121
        refine lv_iload hx hb dX9_stancesOf_128 (lv_at hl 0 rfl) ?_
        refine lv_iload hx hb dX9_stancesOf_130 (lv_at hl 1 rfl) ?_
        refine lv_icmp_ge (tgt := 139) hx hb dX9_stancesOf_132 (by decide) (fun q132 => ?_) (fun q132 => ?_)
        · have hf := (br_if hf).1 q132
          refine lv_iconst (v := 4) hx hb dX9_stancesOf_139 (by decide) ?_
          exact wX9_stancesOf_140 X (fun hf hR hl => ih hf hR hl) (fun hf hR hl => hk153 hf hR hl) (fun hf hR hl => hk162 hf hR hl) hf hR (lv_sub hl [2, 3, 4, 5, 6, 7, 8, 10, 11] rfl)
        · have hf := (br_if hf).2 q132
          refine lv_iconst (v := 2) hx hb dX9_stancesOf_135 (by decide) ?_
          refine lv_goto (tgt := 140) hx hb dX9_stancesOf_136 (by decide) ?_
          exact wX9_stancesOf_140 X (fun hf hR hl => ih hf hR hl) (fun hf hR hl => hk153 hf hR hl) (fun hf hR hl => hk162 hf hR hl) hf hR (lv_sub hl [2, 3, 4, 5, 6, 7, 8, 10, 11] rfl)
      · have hf := (br_if hf).2 q121
        refine lv_iconst (v := 1) hx hb dX9_stancesOf_124 (by decide) ?_
        refine lv_goto (tgt := 140) hx hb dX9_stancesOf_125 (by decide) ?_
        exact wX9_stancesOf_140 X (fun hf hR hl => ih hf hR hl) (fun hf hR hl => hk153 hf hR hl) (fun hf hR hl => hk162 hf hR hl) hf hR (lv_sub hl [2, 3, 4, 5, 6, 7, 8, 10, 11] rfl)
set_option maxHeartbeats 4000000 in
set_option maxRecDepth 100000 in
theorem wX9_stancesOf_162 {r : Int32} {M : Mem} {k59 : Int32 → Int32 → Int32 → Int32 → Int32 → Int32 → Int32 → Int32 → Option Int32} {k153 : Int32 → Option Int32} {k168 : Int32 → Option Int32} (X : CX E p s m args c meth cX9_stancesOf 12 (some .int) RX9) (hk59 : ∀ {x1 : Int32} {x2 : Int32} {x3 : Int32} {x4 : Int32} {x5 : Int32} {x6 : Int32} {x7 : Int32} {x8 : Int32} {H : Heap} {locs : List Loc} {ls : Array Slot}, k59 x1 x2 x3 x4 x5 x6 x7 x8 = some r → Rl E (sh_ b) (nn b) s.heap M H locs → lv_has ls 12 [(0, .ref (eB E + 40)), (1, .int x1), (2, .int x2), (3, .int x3), (4, .int x4), (5, .int x5), (6, .int x6), (7, .int x7), (8, .int x8)] → W p l e (rm 4 0 0) s m args below meth c H locs 0 0 (MQ below (qq E (some (.int r)) (sh_ b) (nn b) M) args s 0 0 (fr E)) (F0 m 59 ls [])) (hk153 : ∀ {x7 : Int32} {H : Heap} {locs : List Loc} {ls : Array Slot}, k153 x7 = some r → Rl E (sh_ b) (nn b) s.heap M H locs → lv_has ls 12 [(7, .int x7)] → W p l e (rm 4 0 0) s m args below meth c H locs 0 0 (MQ below (qq E (some (.int r)) (sh_ b) (nn b) M) args s 0 0 (fr E)) (F0 m 153 ls [])) (hk168 : ∀ {x7 : Int32} {H : Heap} {locs : List Loc} {ls : Array Slot}, k168 x7 = some r → Rl E (sh_ b) (nn b) s.heap M H locs → lv_has ls 12 [(7, .int x7)] → W p l e (rm 4 0 0) s m args below meth c H locs 0 0 (MQ below (qq E (some (.int r)) (sh_ b) (nn b) M) args s 0 0 (fr E)) (F0 m 168 ls [])) : ∀ {x1 : Int32} {x2 : Int32} {x3 : Int32} {x4 : Int32} {x5 : Int32} {x6 : Int32} {x7 : Int32} {x8 : Int32} {H : Heap} {locs : List Loc} {ls : Array Slot}, fX9_stancesOf_162 M k59 k153 k168 x1 x2 x3 x4 x5 x6 x7 x8 = some r → Rl E (sh_ b) (nn b) s.heap M H locs → lv_has ls 12 [(0, .ref (eB E + 40)), (1, .int x1), (2, .int x2), (3, .int x3), (4, .int x4), (5, .int x5), (6, .int x6), (7, .int x7), (8, .int x8)] → W p l e (rm 4 0 0) s m args below meth c H locs 0 0 (MQ below (qq E (some (.int r)) (sh_ b) (nn b) M) args s 0 0 (fr E)) (F0 m 162 ls []) := by
  obtain ⟨hx, hb, hr, hml, hown, hts, hK, hN, hO, hlk, hbs⟩ := id X
  intro x1 x2 x3 x4 x5 x6 x7 x8 H locs ls hf hR hl
  unfold fX9_stancesOf_162 at hf
  obtain ⟨v162, e162⟩ : ∃ y : Int32, y = (x8 + (1 : Int32)) := ⟨_, rfl⟩
  have hf := nx_at e162 hf
  refine lv_iinc (v := v162) (lv' := [(8, .int v162), (0, .ref (eB E + 40)), (1, .int x1), (2, .int x2), (3, .int x3), (4, .int x4), (5, .int x5), (6, .int x6), (7, .int x7)]) hx hb dX9_stancesOf_162 hl (k := 8) rfl (by rw [e162]; rfl) (by decide) rfl (fun ls hl => ?_)
  refine lv_goto (tgt := 59) hx hb dX9_stancesOf_165 (by decide) ?_
  exact hk59 hf hR (lv_sub hl [1, 2, 3, 4, 5, 6, 7, 8, 0] rfl)
set_option maxHeartbeats 4000000 in
set_option maxRecDepth 100000 in
theorem wX9_stancesOf_59 {r : Int32} {M : Mem} {k153 : Int32 → Option Int32} {k168 : Int32 → Option Int32} (X : CX E p s m args c meth cX9_stancesOf 12 (some .int) RX9) (hk153 : ∀ {x7 : Int32} {H : Heap} {locs : List Loc} {ls : Array Slot}, k153 x7 = some r → Rl E (sh_ b) (nn b) s.heap M H locs → lv_has ls 12 [(7, .int x7)] → W p l e (rm 4 0 0) s m args below meth c H locs 0 0 (MQ below (qq E (some (.int r)) (sh_ b) (nn b) M) args s 0 0 (fr E)) (F0 m 153 ls [])) (hk168 : ∀ {x7 : Int32} {H : Heap} {locs : List Loc} {ls : Array Slot}, k168 x7 = some r → Rl E (sh_ b) (nn b) s.heap M H locs → lv_has ls 12 [(7, .int x7)] → W p l e (rm 4 0 0) s m args below meth c H locs 0 0 (MQ below (qq E (some (.int r)) (sh_ b) (nn b) M) args s 0 0 (fr E)) (F0 m 168 ls [])) : ∀ (n : Nat) {x1 : Int32} {x2 : Int32} {x3 : Int32} {x4 : Int32} {x5 : Int32} {x6 : Int32} {x7 : Int32} {x8 : Int32} {H : Heap} {locs : List Loc} {ls : Array Slot}, fX9_stancesOf_59 M k153 k168 n x1 x2 x3 x4 x5 x6 x7 x8 = some r → Rl E (sh_ b) (nn b) s.heap M H locs → lv_has ls 12 [(0, .ref (eB E + 40)), (1, .int x1), (2, .int x2), (3, .int x3), (4, .int x4), (5, .int x5), (6, .int x6), (7, .int x7), (8, .int x8)] → W p l e (rm 4 0 0) s m args below meth c H locs 0 0 (MQ below (qq E (some (.int r)) (sh_ b) (nn b) M) args s 0 0 (fr E)) (F0 m 59 ls []) := by
  obtain ⟨hx, hb, hr, hml, hown, hts, hK, hN, hO, hlk, hbs⟩ := id X
  intro n
  induction n with
  | zero =>
    intro x1 x2 x3 x4 x5 x6 x7 x8 H locs ls hf hR hl
    exact absurd (show none = some _ from hf) (fun h => by cases h)
  | succ n ih =>
    intro x1 x2 x3 x4 x5 x6 x7 x8 H locs ls hf hR hl
    rw [fX9_stancesOf_59] at hf
    refine lv_iload hx hb dX9_stancesOf_59 (lv_at hl 8 rfl) ?_
    refine lv_iload hx hb dX9_stancesOf_61 (lv_at hl 5 rfl) ?_
    refine lv_icmp_gt (tgt := 168) hx hb dX9_stancesOf_63 (by decide) (fun q63 => ?_) (fun q63 => ?_)
    · have hf := (br_if hf).1 q63
      exact hk168 hf hR (lv_sub hl [7] rfl)
    · have hf := (br_if hf).2 q63
      refine lv_iconst (v := 0) hx hb dX9_stancesOf_66 (by decide) ?_
      refine lv_aload_n hx hb dX9_stancesOf_67 rfl (lv_at hl 0 rfl) ?_
      refine x_get hx hb hown hts hK hR kX9 (z_40 b) (j := 1) (by decide) fl_X9_50 (v := .ref (eB E + 1)) rfl dX9_stancesOf_68 ?_
      refine x_get hx hb hown hts hK hR kX8 (z_1 b) (j := 2) (by decide) fl_X9_61 (v := .ref (eB E + 3)) rfl dX9_stancesOf_71 ?_
      refine lv_iload_n hx hb dX9_stancesOf_74 rfl (lv_at hl 1 rfl) ?_
      obtain ⟨g75, hf⟩ := br_g hf
      refine x_iald hx hb hK hR (z_3 b) g75 dX9_stancesOf_75 ?_
      refine lv_iload hx hb dX9_stancesOf_76 (lv_at hl 4 rfl) ?_
      refine lv_isub hx hb dX9_stancesOf_78 ?_
      refine va_mmax hx hb (by rw [hml]; exact hl.1.symm) hown (hts _ ml_X9_134) (hts _ st_max) (hts _ in_J9) (hts _ co_max) (by decide) (Nat.le_of_ble_eq_true rfl) (Nat.zero_le _) (Nat.zero_le _) dX9_stancesOf_79 ?_
      refine W.eq (g2 := F0 m 82 ls [.int (imax (0 : Int32) ((M.1 3 (ix x1)) - x4))]) rfl ?_
      refine lv_topi (fun v82 e82 => ?_)
      have hf := nx_at e82 hf
      refine lv_istore (lv' := [(9, .int v82), (0, .ref (eB E + 40)), (1, .int x1), (2, .int x2), (3, .int x3), (4, .int x4), (5, .int x5), (6, .int x6), (7, .int x7), (8, .int x8)]) hx hb dX9_stancesOf_82 hl (by decide) rfl (fun ls hl => ?_)
      exact wX9_stancesOf_84 X (fun hf hR hl => hk153 hf hR hl) (fun hf hR hl => wX9_stancesOf_162 X (fun hf hR hl => ih hf hR hl) (fun hf hR hl => hk153 hf hR hl) (fun hf hR hl => hk168 hf hR hl) hf hR hl) FU hf hR (lv_sub hl [1, 2, 3, 4, 5, 6, 7, 8, 9, 0] rfl)
set_option maxHeartbeats 4000000 in
set_option maxRecDepth 100000 in
theorem wX9_stancesOf_153 {r : Int32} {M : Mem} (X : CX E p s m args c meth cX9_stancesOf 12 (some .int) RX9) : ∀ {x7 : Int32} {H : Heap} {locs : List Loc} {ls : Array Slot}, fX9_stancesOf_153 M x7 = some r → Rl E (sh_ b) (nn b) s.heap M H locs → lv_has ls 12 [(7, .int x7)] → W p l e (rm 4 0 0) s m args below meth c H locs 0 0 (MQ below (qq E (some (.int r)) (sh_ b) (nn b) M) args s 0 0 (fr E)) (F0 m 153 ls []) := by
  obtain ⟨hx, hb, hr, hml, hown, hts, hK, hN, hO, hlk, hbs⟩ := id X
  intro x7 H locs ls hf hR hl
  unfold fX9_stancesOf_153 at hf
  refine lv_iload hx hb dX9_stancesOf_153 (lv_at hl 0 rfl) ?_
  cases hf
  exact x_iret hx hb hr hlk hR dX9_stancesOf_155
set_option maxHeartbeats 4000000 in
set_option maxRecDepth 100000 in
theorem wX9_stancesOf_168 {r : Int32} {M : Mem} (X : CX E p s m args c meth cX9_stancesOf 12 (some .int) RX9) : ∀ {x7 : Int32} {H : Heap} {locs : List Loc} {ls : Array Slot}, fX9_stancesOf_168 M x7 = some r → Rl E (sh_ b) (nn b) s.heap M H locs → lv_has ls 12 [(7, .int x7)] → W p l e (rm 4 0 0) s m args below meth c H locs 0 0 (MQ below (qq E (some (.int r)) (sh_ b) (nn b) M) args s 0 0 (fr E)) (F0 m 168 ls []) := by
  obtain ⟨hx, hb, hr, hml, hown, hts, hK, hN, hO, hlk, hbs⟩ := id X
  intro x7 H locs ls hf hR hl
  unfold fX9_stancesOf_168 at hf
  refine lv_iload hx hb dX9_stancesOf_168 (lv_at hl 0 rfl) ?_
  cases hf
  exact x_iret hx hb hr hlk hR dX9_stancesOf_170
set_option maxHeartbeats 4000000 in
set_option maxRecDepth 100000 in
theorem wX9_stancesOf_0 {r : Int32} {M : Mem} (X : CX E p s m args c meth cX9_stancesOf 12 (some .int) RX9) : ∀ {x1 : Int32} {x2 : Int32} {x3 : Int32} {x4 : Int32} {H : Heap} {locs : List Loc} {ls : Array Slot}, fX9_stancesOf M x1 x2 x3 x4 = some r → Rl E (sh_ b) (nn b) s.heap M H locs → lv_has ls 12 [(0, .ref (eB E + 40)), (1, .int x1), (2, .int x2), (3, .int x3), (4, .int x4)] → W p l e (rm 4 0 0) s m args below meth c H locs 0 0 (MQ below (qq E (some (.int r)) (sh_ b) (nn b) M) args s 0 0 (fr E)) (F0 m 0 ls []) := by
  obtain ⟨hx, hb, hr, hml, hown, hts, hK, hN, hO, hlk, hbs⟩ := id X
  intro x1 x2 x3 x4 H locs ls hf hR hl
  unfold fX9_stancesOf at hf
  refine lv_bipush (v := 99) hx hb dX9_stancesOf_0 (by decide) ?_
  refine lv_aload_n hx hb dX9_stancesOf_2 rfl (lv_at hl 0 rfl) ?_
  refine x_get hx hb hown hts hK hR kX9 (z_40 b) (j := 1) (by decide) fl_X9_50 (v := .ref (eB E + 1)) rfl dX9_stancesOf_3 ?_
  refine x_get hx hb hown hts hK hR kX8 (z_1 b) (j := 1) (by decide) fl_X9_58 (v := .ref (eB E + 2)) rfl dX9_stancesOf_6 ?_
  refine lv_iload_n hx hb dX9_stancesOf_9 rfl (lv_at hl 1 rfl) ?_
  obtain ⟨g10, hf⟩ := br_g hf
  refine x_iald hx hb hK hR (z_2 b) g10 dX9_stancesOf_10 ?_
  refine lv_iload hx hb dX9_stancesOf_11 (lv_at hl 4 rfl) ?_
  refine lv_iadd hx hb dX9_stancesOf_13 ?_
  refine va_mmin hx hb (by rw [hml]; exact hl.1.symm) hown (hts _ ml_X9_113) (hts _ st_min) (hts _ in_J9) (hts _ co_min) (by decide) (Nat.le_of_ble_eq_true rfl) (Nat.zero_le _) (Nat.zero_le _) dX9_stancesOf_14 ?_
  refine W.eq (g2 := F0 m 17 ls [.int (imin (99 : Int32) ((M.1 2 (ix x1)) + x4))]) rfl ?_
  refine lv_topi (fun v17 e17 => ?_)
  have hf := nx_at e17 hf
  refine lv_istore (lv' := [(5, .int v17), (0, .ref (eB E + 40)), (1, .int x1), (2, .int x2), (3, .int x3), (4, .int x4)]) hx hb dX9_stancesOf_17 hl (by decide) rfl (fun ls hl => ?_)
  refine lv_bipush (v := 99) hx hb dX9_stancesOf_19 (by decide) ?_
  refine lv_aload_n hx hb dX9_stancesOf_21 rfl (lv_at hl 1 rfl) ?_
  refine x_get hx hb hown hts hK hR kX9 (z_40 b) (j := 1) (by decide) fl_X9_50 (v := .ref (eB E + 1)) rfl dX9_stancesOf_22 ?_
  refine x_get hx hb hown hts hK hR kX8 (z_1 b) (j := 2) (by decide) fl_X9_61 (v := .ref (eB E + 3)) rfl dX9_stancesOf_25 ?_
  refine lv_iload_n hx hb dX9_stancesOf_28 rfl (lv_at hl 2 rfl) ?_
  obtain ⟨g29, hf⟩ := br_g hf
  refine x_iald hx hb hK hR (z_3 b) g29 dX9_stancesOf_29 ?_
  refine lv_iload hx hb dX9_stancesOf_30 (lv_at hl 5 rfl) ?_
  refine lv_iadd hx hb dX9_stancesOf_32 ?_
  refine va_mmin hx hb (by rw [hml]; exact hl.1.symm) hown (hts _ ml_X9_113) (hts _ st_min) (hts _ in_J9) (hts _ co_min) (by decide) (Nat.le_of_ble_eq_true rfl) (Nat.zero_le _) (Nat.zero_le _) dX9_stancesOf_33 ?_
  refine W.eq (g2 := F0 m 36 ls [.int (imin (99 : Int32) ((M.1 3 (ix x1)) + x4))]) rfl ?_
  refine lv_topi (fun v36 e36 => ?_)
  have hf := nx_at e36 hf
  refine lv_istore (lv' := [(6, .int v36), (5, .int v17), (0, .ref (eB E + 40)), (1, .int x1), (2, .int x2), (3, .int x3), (4, .int x4)]) hx hb dX9_stancesOf_36 hl (by decide) rfl (fun ls hl => ?_)
  refine lv_iconst (v := 0) hx hb dX9_stancesOf_38 (by decide) ?_
  refine lv_istore (lv' := [(7, .int (0 : Int32)), (6, .int v36), (5, .int v17), (0, .ref (eB E + 40)), (1, .int x1), (2, .int x2), (3, .int x3), (4, .int x4)]) hx hb dX9_stancesOf_39 hl (by decide) rfl (fun ls hl => ?_)
  refine lv_iconst (v := 0) hx hb dX9_stancesOf_41 (by decide) ?_
  refine lv_aload_n hx hb dX9_stancesOf_42 rfl (lv_at hl 3 rfl) ?_
  refine x_get hx hb hown hts hK hR kX9 (z_40 b) (j := 1) (by decide) fl_X9_50 (v := .ref (eB E + 1)) rfl dX9_stancesOf_43 ?_
  refine x_get hx hb hown hts hK hR kX8 (z_1 b) (j := 1) (by decide) fl_X9_58 (v := .ref (eB E + 2)) rfl dX9_stancesOf_46 ?_
  refine lv_iload_n hx hb dX9_stancesOf_49 rfl (lv_at hl 4 rfl) ?_
  obtain ⟨g50, hf⟩ := br_g hf
  refine x_iald hx hb hK hR (z_2 b) g50 dX9_stancesOf_50 ?_
  refine lv_iload hx hb dX9_stancesOf_51 (lv_at hl 7 rfl) ?_
  refine lv_isub hx hb dX9_stancesOf_53 ?_
  refine va_mmax hx hb (by rw [hml]; exact hl.1.symm) hown (hts _ ml_X9_134) (hts _ st_max) (hts _ in_J9) (hts _ co_max) (by decide) (Nat.le_of_ble_eq_true rfl) (Nat.zero_le _) (Nat.zero_le _) dX9_stancesOf_54 ?_
  refine W.eq (g2 := F0 m 57 ls [.int (imax (0 : Int32) ((M.1 2 (ix x1)) - x4))]) rfl ?_
  refine lv_topi (fun v57 e57 => ?_)
  have hf := nx_at e57 hf
  refine lv_istore (lv' := [(8, .int v57), (7, .int (0 : Int32)), (6, .int v36), (5, .int v17), (0, .ref (eB E + 40)), (1, .int x1), (2, .int x2), (3, .int x3), (4, .int x4)]) hx hb dX9_stancesOf_57 hl (by decide) rfl (fun ls hl => ?_)
  exact wX9_stancesOf_59 X (fun hf hR hl => wX9_stancesOf_153 X hf hR hl) (fun hf hR hl => wX9_stancesOf_168 X hf hR hl) FU hf hR (lv_sub hl [4, 5, 6, 7, 8, 3, 2, 1, 0] rfl)
theorem ctX9_stancesOf {l : Launch} {E : Ge} {b : Bool} {M : Mem} {x1 : Int32} {x2 : Int32} {x3 : Int32} {x4 : Int32} {r : Int32} (h : fX9_stancesOf M x1 x2 x3 x4 = some r) : CT l E yX9_stancesOf cX9_stancesOf 12 (some .int) 4 0 0 [.ref (eB E + 40), .int x1, .int x2, .int x3, .int x4] (some (.int r)) (sh_ b) (nn b) M (sh_ b) (nn b) M := by
  refine met_of (by decide) (Nat.le_of_ble_eq_true rfl) ?_
  intro p e s m args below meth c X _ hR ls hl
  exact wX9_stancesOf_0 X h hR hl
def fX9_verdict_134 (M : Mem) (k38 : Int32 → Int32 → Int32 → Int32 → Int32 → Int32 → Int32 → Int32 → Option Int32) (k143 : Int32 → Int32 → Int32 → Int32 → Int32 → Int32 → Int32 → Option Int32) (x1 : Int32) (x2 : Int32) (x3 : Int32) (x4 : Int32) (x5 : Int32) (x6 : Int32) (x8 : Int32) (s0 : Int32) (s1 : Int32) : Option Int32 := nx (s0 + s1) (fun v135 => nx (x8 + (1 : Int32)) (fun v137 => k38 x1 x2 x3 x4 x5 x6 v135 v137))
def fX9_verdict_109 (M : Mem) (k38 : Int32 → Int32 → Int32 → Int32 → Int32 → Int32 → Int32 → Int32 → Option Int32) (k143 : Int32 → Int32 → Int32 → Int32 → Int32 → Int32 → Int32 → Option Int32) (x1 : Int32) (x2 : Int32) (x3 : Int32) (x4 : Int32) (x5 : Int32) (x7 : Int32) (x8 : Int32) (x9 : Int32) (s0 : Int32) (s1 : Int32) : Option Int32 := nx (s0 + s1) (fun v110 => (if x9 = (4 : Int32) then (if inb x8 15 = true then fX9_verdict_134 M k38 k143 x1 x2 x3 x4 x5 v110 x8 x7 ((M.1 4 (ix x8))) else none) else fX9_verdict_134 M k38 k143 x1 x2 x3 x4 x5 v110 x8 x7 (0 : Int32)))
def fX9_verdict_84 (M : Mem) (k38 : Int32 → Int32 → Int32 → Int32 → Int32 → Int32 → Int32 → Int32 → Option Int32) (k143 : Int32 → Int32 → Int32 → Int32 → Int32 → Int32 → Int32 → Option Int32) (x1 : Int32) (x2 : Int32) (x3 : Int32) (x4 : Int32) (x6 : Int32) (x7 : Int32) (x8 : Int32) (x9 : Int32) (s0 : Int32) (s1 : Int32) : Option Int32 := nx (s0 + s1) (fun v85 => (if x9 = (2 : Int32) then (if inb x8 15 = true then fX9_verdict_109 M k38 k143 x1 x2 x3 x4 v85 x7 x8 x9 x6 ((M.1 4 (ix x8))) else none) else fX9_verdict_109 M k38 k143 x1 x2 x3 x4 v85 x7 x8 x9 x6 (0 : Int32)))
def fX9_verdict_38 (M : Mem) (k143 : Int32 → Int32 → Int32 → Int32 → Int32 → Int32 → Int32 → Option Int32) : Nat → Int32 → Int32 → Int32 → Int32 → Int32 → Int32 → Int32 → Int32 → Option Int32
  | 0, _, _, _, _, _, _, _, _ => none
  | n + 1, x1, x2, x3, x4, x5, x6, x7, x8 => (if (M.1 1 0) ≤ x8 then k143 x1 x2 x3 x4 x5 x6 x7 else (fX9_stancesOf M x8 x1 x4 x2).bind (fun q57 => (if q57 = (1 : Int32) then (if inb x8 15 = true then fX9_verdict_84 M (fX9_verdict_38 M k143 n) k143 x1 x2 x3 x4 x6 x7 x8 q57 x5 ((M.1 4 (ix x8))) else none) else fX9_verdict_84 M (fX9_verdict_38 M k143 n) k143 x1 x2 x3 x4 x6 x7 x8 q57 x5 (0 : Int32))))
def fX9_verdict_193 (M : Mem) (k5 : Int32 → Int32 → Int32 → Int32 → Option Int32) (k172 : Option Int32) (k199 : Int32 → Option Int32) (x1 : Int32) (x2 : Int32) (x3 : Int32) (x4 : Int32) : Option Int32 := nx (x4 + (1 : Int32)) (fun v193 => k5 x1 x2 x3 v193)
def fX9_verdict_143 (M : Mem) (k5 : Int32 → Int32 → Int32 → Int32 → Option Int32) (k172 : Option Int32) (k199 : Int32 → Option Int32) (x1 : Int32) (x2 : Int32) (x3 : Int32) (x4 : Int32) (x5 : Int32) (x6 : Int32) (x7 : Int32) : Option Int32 := nx ((M.1 1 7) - x7) (fun v153 => (fX8_isEnough_t M x6 (v153 - x6)).bind (fun q166 => (if q166 = 0 then (fX8_isEnough_t M (v153 - x5) x5).bind (fun q185 => (if q185 = 0 then fX9_verdict_193 M k5 k172 k199 x1 x2 x3 x4 else fX9_verdict_193 M k5 k172 k199 x1 x2 (1 : Int32) x4)) else k172)))
def fX9_verdict_5 (M : Mem) (k172 : Option Int32) (k199 : Int32 → Option Int32) : Nat → Int32 → Int32 → Int32 → Int32 → Option Int32
  | 0, _, _, _, _ => none
  | n + 1, x1, x2, x3, x4 => (if (M.1 1 8) ≤ x4 then k199 x3 else (if x4 = x1 then fX9_verdict_193 M (fX9_verdict_5 M k172 k199 n) k172 k199 x1 x2 x3 x4 else fX9_verdict_38 M (fX9_verdict_143 M (fX9_verdict_5 M k172 k199 n) k172 k199) FU x1 x2 x3 x4 (0 : Int32) (0 : Int32) (0 : Int32) (0 : Int32)))
def fX9_verdict_172 (M : Mem) : Option Int32 := some (0 : Int32)
def fX9_verdict_199 (M : Mem) (x3 : Int32) : Option Int32 := some x3
def fX9_verdict (M : Mem) (x1 : Int32) (x2 : Int32) : Option Int32 := fX9_verdict_5 M (fX9_verdict_172 M) (fX9_verdict_199 M) FU x1 x2 (2 : Int32) (0 : Int32)
set_option maxHeartbeats 4000000 in
set_option maxRecDepth 100000 in
theorem wX9_verdict_134 {r : Int32} {M : Mem} {k38 : Int32 → Int32 → Int32 → Int32 → Int32 → Int32 → Int32 → Int32 → Option Int32} {k143 : Int32 → Int32 → Int32 → Int32 → Int32 → Int32 → Int32 → Option Int32} (X : CX E p s m args c meth cX9_verdict 10 (some .int) RX9) (hk38 : ∀ {x1 : Int32} {x2 : Int32} {x3 : Int32} {x4 : Int32} {x5 : Int32} {x6 : Int32} {x7 : Int32} {x8 : Int32} {H : Heap} {locs : List Loc} {ls : Array Slot}, k38 x1 x2 x3 x4 x5 x6 x7 x8 = some r → Rl E (sh_ b) (nn b) s.heap M H locs → lv_has ls 10 [(0, .ref (eB E + 40)), (1, .int x1), (2, .int x2), (3, .int x3), (4, .int x4), (5, .int x5), (6, .int x6), (7, .int x7), (8, .int x8)] → W p l e (rm 5 0 0) s m args below meth c H locs 0 0 (MQ below (qq E (some (.int r)) (sh_ b) (nn b) M) args s 0 0 (fr E)) (F0 m 38 ls [])) (hk143 : ∀ {x1 : Int32} {x2 : Int32} {x3 : Int32} {x4 : Int32} {x5 : Int32} {x6 : Int32} {x7 : Int32} {H : Heap} {locs : List Loc} {ls : Array Slot}, k143 x1 x2 x3 x4 x5 x6 x7 = some r → Rl E (sh_ b) (nn b) s.heap M H locs → lv_has ls 10 [(0, .ref (eB E + 40)), (1, .int x1), (2, .int x2), (3, .int x3), (4, .int x4), (5, .int x5), (6, .int x6), (7, .int x7)] → W p l e (rm 5 0 0) s m args below meth c H locs 0 0 (MQ below (qq E (some (.int r)) (sh_ b) (nn b) M) args s 0 0 (fr E)) (F0 m 143 ls [])) : ∀ {x1 : Int32} {x2 : Int32} {x3 : Int32} {x4 : Int32} {x5 : Int32} {x6 : Int32} {x8 : Int32} {s0 : Int32} {s1 : Int32} {H : Heap} {locs : List Loc} {ls : Array Slot}, fX9_verdict_134 M k38 k143 x1 x2 x3 x4 x5 x6 x8 s0 s1 = some r → Rl E (sh_ b) (nn b) s.heap M H locs → lv_has ls 10 [(0, .ref (eB E + 40)), (1, .int x1), (2, .int x2), (3, .int x3), (4, .int x4), (5, .int x5), (6, .int x6), (8, .int x8)] → W p l e (rm 5 0 0) s m args below meth c H locs 0 0 (MQ below (qq E (some (.int r)) (sh_ b) (nn b) M) args s 0 0 (fr E)) (F0 m 134 ls [.int s1, .int s0]) := by
  obtain ⟨hx, hb, hr, hml, hown, hts, hK, hN, hO, hlk, hbs⟩ := id X
  intro x1 x2 x3 x4 x5 x6 x8 s0 s1 H locs ls hf hR hl
  unfold fX9_verdict_134 at hf
  refine lv_iadd hx hb dX9_verdict_134 ?_
  refine lv_topi (fun v135 e135 => ?_)
  have hf := nx_at e135 hf
  refine lv_istore (lv' := [(7, .int v135), (0, .ref (eB E + 40)), (1, .int x1), (2, .int x2), (3, .int x3), (4, .int x4), (5, .int x5), (6, .int x6), (8, .int x8)]) hx hb dX9_verdict_135 hl (by decide) rfl (fun ls hl => ?_)
  obtain ⟨v137, e137⟩ : ∃ y : Int32, y = (x8 + (1 : Int32)) := ⟨_, rfl⟩
  have hf := nx_at e137 hf
  refine lv_iinc (v := v137) (lv' := [(8, .int v137), (7, .int v135), (0, .ref (eB E + 40)), (1, .int x1), (2, .int x2), (3, .int x3), (4, .int x4), (5, .int x5), (6, .int x6)]) hx hb dX9_verdict_137 hl (k := 8) rfl (by rw [e137]; rfl) (by decide) rfl (fun ls hl => ?_)
  refine lv_goto (tgt := 38) hx hb dX9_verdict_140 (by decide) ?_
  exact hk38 hf hR (lv_sub hl [2, 3, 4, 5, 6, 7, 8, 1, 0] rfl)
set_option maxHeartbeats 4000000 in
set_option maxRecDepth 100000 in
theorem wX9_verdict_109 {r : Int32} {M : Mem} {k38 : Int32 → Int32 → Int32 → Int32 → Int32 → Int32 → Int32 → Int32 → Option Int32} {k143 : Int32 → Int32 → Int32 → Int32 → Int32 → Int32 → Int32 → Option Int32} (X : CX E p s m args c meth cX9_verdict 10 (some .int) RX9) (hk38 : ∀ {x1 : Int32} {x2 : Int32} {x3 : Int32} {x4 : Int32} {x5 : Int32} {x6 : Int32} {x7 : Int32} {x8 : Int32} {H : Heap} {locs : List Loc} {ls : Array Slot}, k38 x1 x2 x3 x4 x5 x6 x7 x8 = some r → Rl E (sh_ b) (nn b) s.heap M H locs → lv_has ls 10 [(0, .ref (eB E + 40)), (1, .int x1), (2, .int x2), (3, .int x3), (4, .int x4), (5, .int x5), (6, .int x6), (7, .int x7), (8, .int x8)] → W p l e (rm 5 0 0) s m args below meth c H locs 0 0 (MQ below (qq E (some (.int r)) (sh_ b) (nn b) M) args s 0 0 (fr E)) (F0 m 38 ls [])) (hk143 : ∀ {x1 : Int32} {x2 : Int32} {x3 : Int32} {x4 : Int32} {x5 : Int32} {x6 : Int32} {x7 : Int32} {H : Heap} {locs : List Loc} {ls : Array Slot}, k143 x1 x2 x3 x4 x5 x6 x7 = some r → Rl E (sh_ b) (nn b) s.heap M H locs → lv_has ls 10 [(0, .ref (eB E + 40)), (1, .int x1), (2, .int x2), (3, .int x3), (4, .int x4), (5, .int x5), (6, .int x6), (7, .int x7)] → W p l e (rm 5 0 0) s m args below meth c H locs 0 0 (MQ below (qq E (some (.int r)) (sh_ b) (nn b) M) args s 0 0 (fr E)) (F0 m 143 ls [])) : ∀ {x1 : Int32} {x2 : Int32} {x3 : Int32} {x4 : Int32} {x5 : Int32} {x7 : Int32} {x8 : Int32} {x9 : Int32} {s0 : Int32} {s1 : Int32} {H : Heap} {locs : List Loc} {ls : Array Slot}, fX9_verdict_109 M k38 k143 x1 x2 x3 x4 x5 x7 x8 x9 s0 s1 = some r → Rl E (sh_ b) (nn b) s.heap M H locs → lv_has ls 10 [(0, .ref (eB E + 40)), (1, .int x1), (2, .int x2), (3, .int x3), (4, .int x4), (5, .int x5), (7, .int x7), (8, .int x8), (9, .int x9)] → W p l e (rm 5 0 0) s m args below meth c H locs 0 0 (MQ below (qq E (some (.int r)) (sh_ b) (nn b) M) args s 0 0 (fr E)) (F0 m 109 ls [.int s1, .int s0]) := by
  obtain ⟨hx, hb, hr, hml, hown, hts, hK, hN, hO, hlk, hbs⟩ := id X
  intro x1 x2 x3 x4 x5 x7 x8 x9 s0 s1 H locs ls hf hR hl
  unfold fX9_verdict_109 at hf
  refine lv_iadd hx hb dX9_verdict_109 ?_
  refine lv_topi (fun v110 e110 => ?_)
  have hf := nx_at e110 hf
  refine lv_istore (lv' := [(6, .int v110), (0, .ref (eB E + 40)), (1, .int x1), (2, .int x2), (3, .int x3), (4, .int x4), (5, .int x5), (7, .int x7), (8, .int x8), (9, .int x9)]) hx hb dX9_verdict_110 hl (by decide) rfl (fun ls hl => ?_)
  refine lv_iload hx hb dX9_verdict_112 (lv_at hl 7 rfl) ?_
  refine lv_iload hx hb dX9_verdict_114 (lv_at hl 9 rfl) ?_
  refine lv_iconst (v := 4) hx hb dX9_verdict_116 (by decide) ?_
  refine lv_icmp_ne (tgt := 133) hx hb dX9_verdict_117 (by decide) (fun q117 => ?_) (fun q117 => ?_)
  · have hf := (br_if hf).2 q117
    refine lv_iconst (v := 0) hx hb dX9_verdict_133 (by decide) ?_
    exact wX9_verdict_134 X (fun hf hR hl => hk38 hf hR hl) (fun hf hR hl => hk143 hf hR hl) hf hR (lv_sub hl [1, 2, 3, 4, 5, 6, 0, 8] rfl)
  · have hf := (br_if hf).1 q117
    refine lv_aload_n hx hb dX9_verdict_120 rfl (lv_at hl 1 rfl) ?_
    refine x_get hx hb hown hts hK hR kX9 (z_40 b) (j := 1) (by decide) fl_X9_50 (v := .ref (eB E + 1)) rfl dX9_verdict_121 ?_
    refine x_get hx hb hown hts hK hR kX8 (z_1 b) (j := 3) (by decide) fl_X9_81 (v := .ref (eB E + 4)) rfl dX9_verdict_124 ?_
    refine lv_iload hx hb dX9_verdict_127 (lv_at hl 8 rfl) ?_
    obtain ⟨g129, hf⟩ := br_g hf
    refine x_iald hx hb hK hR (z_4 b) g129 dX9_verdict_129 ?_
    refine lv_goto (tgt := 134) hx hb dX9_verdict_130 (by decide) ?_
    exact wX9_verdict_134 X (fun hf hR hl => hk38 hf hR hl) (fun hf hR hl => hk143 hf hR hl) hf hR (lv_sub hl [1, 2, 3, 4, 5, 6, 0, 8] rfl)
set_option maxHeartbeats 4000000 in
set_option maxRecDepth 100000 in
theorem wX9_verdict_84 {r : Int32} {M : Mem} {k38 : Int32 → Int32 → Int32 → Int32 → Int32 → Int32 → Int32 → Int32 → Option Int32} {k143 : Int32 → Int32 → Int32 → Int32 → Int32 → Int32 → Int32 → Option Int32} (X : CX E p s m args c meth cX9_verdict 10 (some .int) RX9) (hk38 : ∀ {x1 : Int32} {x2 : Int32} {x3 : Int32} {x4 : Int32} {x5 : Int32} {x6 : Int32} {x7 : Int32} {x8 : Int32} {H : Heap} {locs : List Loc} {ls : Array Slot}, k38 x1 x2 x3 x4 x5 x6 x7 x8 = some r → Rl E (sh_ b) (nn b) s.heap M H locs → lv_has ls 10 [(0, .ref (eB E + 40)), (1, .int x1), (2, .int x2), (3, .int x3), (4, .int x4), (5, .int x5), (6, .int x6), (7, .int x7), (8, .int x8)] → W p l e (rm 5 0 0) s m args below meth c H locs 0 0 (MQ below (qq E (some (.int r)) (sh_ b) (nn b) M) args s 0 0 (fr E)) (F0 m 38 ls [])) (hk143 : ∀ {x1 : Int32} {x2 : Int32} {x3 : Int32} {x4 : Int32} {x5 : Int32} {x6 : Int32} {x7 : Int32} {H : Heap} {locs : List Loc} {ls : Array Slot}, k143 x1 x2 x3 x4 x5 x6 x7 = some r → Rl E (sh_ b) (nn b) s.heap M H locs → lv_has ls 10 [(0, .ref (eB E + 40)), (1, .int x1), (2, .int x2), (3, .int x3), (4, .int x4), (5, .int x5), (6, .int x6), (7, .int x7)] → W p l e (rm 5 0 0) s m args below meth c H locs 0 0 (MQ below (qq E (some (.int r)) (sh_ b) (nn b) M) args s 0 0 (fr E)) (F0 m 143 ls [])) : ∀ {x1 : Int32} {x2 : Int32} {x3 : Int32} {x4 : Int32} {x6 : Int32} {x7 : Int32} {x8 : Int32} {x9 : Int32} {s0 : Int32} {s1 : Int32} {H : Heap} {locs : List Loc} {ls : Array Slot}, fX9_verdict_84 M k38 k143 x1 x2 x3 x4 x6 x7 x8 x9 s0 s1 = some r → Rl E (sh_ b) (nn b) s.heap M H locs → lv_has ls 10 [(0, .ref (eB E + 40)), (1, .int x1), (2, .int x2), (3, .int x3), (4, .int x4), (6, .int x6), (7, .int x7), (8, .int x8), (9, .int x9)] → W p l e (rm 5 0 0) s m args below meth c H locs 0 0 (MQ below (qq E (some (.int r)) (sh_ b) (nn b) M) args s 0 0 (fr E)) (F0 m 84 ls [.int s1, .int s0]) := by
  obtain ⟨hx, hb, hr, hml, hown, hts, hK, hN, hO, hlk, hbs⟩ := id X
  intro x1 x2 x3 x4 x6 x7 x8 x9 s0 s1 H locs ls hf hR hl
  unfold fX9_verdict_84 at hf
  refine lv_iadd hx hb dX9_verdict_84 ?_
  refine lv_topi (fun v85 e85 => ?_)
  have hf := nx_at e85 hf
  refine lv_istore (lv' := [(5, .int v85), (0, .ref (eB E + 40)), (1, .int x1), (2, .int x2), (3, .int x3), (4, .int x4), (6, .int x6), (7, .int x7), (8, .int x8), (9, .int x9)]) hx hb dX9_verdict_85 hl (by decide) rfl (fun ls hl => ?_)
  refine lv_iload hx hb dX9_verdict_87 (lv_at hl 6 rfl) ?_
  refine lv_iload hx hb dX9_verdict_89 (lv_at hl 9 rfl) ?_
  refine lv_iconst (v := 2) hx hb dX9_verdict_91 (by decide) ?_
  refine lv_icmp_ne (tgt := 108) hx hb dX9_verdict_92 (by decide) (fun q92 => ?_) (fun q92 => ?_)
  · have hf := (br_if hf).2 q92
    refine lv_iconst (v := 0) hx hb dX9_verdict_108 (by decide) ?_
    exact wX9_verdict_109 X (fun hf hR hl => hk38 hf hR hl) (fun hf hR hl => hk143 hf hR hl) hf hR (lv_sub hl [1, 2, 3, 4, 5, 0, 7, 8, 9] rfl)
  · have hf := (br_if hf).1 q92
    refine lv_aload_n hx hb dX9_verdict_95 rfl (lv_at hl 1 rfl) ?_
    refine x_get hx hb hown hts hK hR kX9 (z_40 b) (j := 1) (by decide) fl_X9_50 (v := .ref (eB E + 1)) rfl dX9_verdict_96 ?_
    refine x_get hx hb hown hts hK hR kX8 (z_1 b) (j := 3) (by decide) fl_X9_81 (v := .ref (eB E + 4)) rfl dX9_verdict_99 ?_
    refine lv_iload hx hb dX9_verdict_102 (lv_at hl 8 rfl) ?_
    obtain ⟨g104, hf⟩ := br_g hf
    refine x_iald hx hb hK hR (z_4 b) g104 dX9_verdict_104 ?_
    refine lv_goto (tgt := 109) hx hb dX9_verdict_105 (by decide) ?_
    exact wX9_verdict_109 X (fun hf hR hl => hk38 hf hR hl) (fun hf hR hl => hk143 hf hR hl) hf hR (lv_sub hl [1, 2, 3, 4, 5, 0, 7, 8, 9] rfl)
set_option maxHeartbeats 4000000 in
set_option maxRecDepth 100000 in
theorem wX9_verdict_38 {r : Int32} {M : Mem} {k143 : Int32 → Int32 → Int32 → Int32 → Int32 → Int32 → Int32 → Option Int32} (X : CX E p s m args c meth cX9_verdict 10 (some .int) RX9) (hk143 : ∀ {x1 : Int32} {x2 : Int32} {x3 : Int32} {x4 : Int32} {x5 : Int32} {x6 : Int32} {x7 : Int32} {H : Heap} {locs : List Loc} {ls : Array Slot}, k143 x1 x2 x3 x4 x5 x6 x7 = some r → Rl E (sh_ b) (nn b) s.heap M H locs → lv_has ls 10 [(0, .ref (eB E + 40)), (1, .int x1), (2, .int x2), (3, .int x3), (4, .int x4), (5, .int x5), (6, .int x6), (7, .int x7)] → W p l e (rm 5 0 0) s m args below meth c H locs 0 0 (MQ below (qq E (some (.int r)) (sh_ b) (nn b) M) args s 0 0 (fr E)) (F0 m 143 ls [])) : ∀ (n : Nat) {x1 : Int32} {x2 : Int32} {x3 : Int32} {x4 : Int32} {x5 : Int32} {x6 : Int32} {x7 : Int32} {x8 : Int32} {H : Heap} {locs : List Loc} {ls : Array Slot}, fX9_verdict_38 M k143 n x1 x2 x3 x4 x5 x6 x7 x8 = some r → Rl E (sh_ b) (nn b) s.heap M H locs → lv_has ls 10 [(0, .ref (eB E + 40)), (1, .int x1), (2, .int x2), (3, .int x3), (4, .int x4), (5, .int x5), (6, .int x6), (7, .int x7), (8, .int x8)] → W p l e (rm 5 0 0) s m args below meth c H locs 0 0 (MQ below (qq E (some (.int r)) (sh_ b) (nn b) M) args s 0 0 (fr E)) (F0 m 38 ls []) := by
  obtain ⟨hx, hb, hr, hml, hown, hts, hK, hN, hO, hlk, hbs⟩ := id X
  intro n
  induction n with
  | zero =>
    intro x1 x2 x3 x4 x5 x6 x7 x8 H locs ls hf hR hl
    exact absurd (show none = some _ from hf) (fun h => by cases h)
  | succ n ih =>
    intro x1 x2 x3 x4 x5 x6 x7 x8 H locs ls hf hR hl
    rw [fX9_verdict_38] at hf
    refine lv_iload hx hb dX9_verdict_38 (lv_at hl 8 rfl) ?_
    refine lv_aload_n hx hb dX9_verdict_40 rfl (lv_at hl 0 rfl) ?_
    refine x_get hx hb hown hts hK hR kX9 (z_40 b) (j := 1) (by decide) fl_X9_50 (v := .ref (eB E + 1)) rfl dX9_verdict_41 ?_
    refine x_get hx hb hown hts hK hR kX8 (z_1 b) (j := 0) (by decide) fl_X9_55 (v := .int (M.1 1 0)) rfl dX9_verdict_44 ?_
    refine lv_icmp_ge (tgt := 143) hx hb dX9_verdict_47 (by decide) (fun q47 => ?_) (fun q47 => ?_)
    · have hf := (br_if hf).1 q47
      exact hk143 hf hR (lv_sub hl [0, 1, 2, 3, 4, 5, 6, 7] rfl)
    · have hf := (br_if hf).2 q47
      refine lv_aload_n hx hb dX9_verdict_50 rfl (lv_at hl 0 rfl) ?_
      refine lv_iload hx hb dX9_verdict_51 (lv_at hl 8 rfl) ?_
      refine lv_iload_n hx hb dX9_verdict_53 rfl (lv_at hl 1 rfl) ?_
      refine lv_iload hx hb dX9_verdict_54 (lv_at hl 4 rfl) ?_
      refine lv_iload_n hx hb dX9_verdict_56 rfl (lv_at hl 2 rfl) ?_
      obtain ⟨q57, c57, hf⟩ := br_b hf
      refine x_callV (k := 40) (As := [.int x8, .int x1, .int x4, .int x2]) (rest := []) (st1 := [.int q57]) X hR (ctX9_stancesOf c57) ml_X9_128 im_X9_stancesOf se_X9_stancesOf in_X9 co_X9_stancesOf yo_X9_stancesOf rfl kX9 (z_40 b) (rm_ok (by decide) (by decide)) rfl hl.1 rfl rfl (Nat.le_of_ble_eq_true rfl) dX9_verdict_57 ⟨Nat.zero_le _, Nat.zero_le _⟩ (fun H locs hR => ?_)
      refine lv_istore (lv' := [(9, .int q57), (0, .ref (eB E + 40)), (1, .int x1), (2, .int x2), (3, .int x3), (4, .int x4), (5, .int x5), (6, .int x6), (7, .int x7), (8, .int x8)]) hx hb dX9_verdict_60 hl (by decide) rfl (fun ls hl => ?_)
      refine lv_iload hx hb dX9_verdict_62 (lv_at hl 6 rfl) ?_
      refine lv_iload hx hb dX9_verdict_64 (lv_at hl 0 rfl) ?_
      refine lv_iconst (v := 1) hx hb dX9_verdict_66 (by decide) ?_
      refine lv_icmp_ne (tgt := 83) hx hb dX9_verdict_67 (by decide) (fun q67 => ?_) (fun q67 => ?_)
      · have hf := (br_if hf).2 q67
        refine lv_iconst (v := 0) hx hb dX9_verdict_83 (by decide) ?_
        exact wX9_verdict_84 X (fun hf hR hl => ih hf hR hl) (fun hf hR hl => hk143 hf hR hl) hf hR (lv_sub hl [1, 2, 3, 4, 5, 7, 8, 9, 0] rfl)
      · have hf := (br_if hf).1 q67
        refine lv_aload_n hx hb dX9_verdict_70 rfl (lv_at hl 1 rfl) ?_
        refine x_get hx hb hown hts hK hR kX9 (z_40 b) (j := 1) (by decide) fl_X9_50 (v := .ref (eB E + 1)) rfl dX9_verdict_71 ?_
        refine x_get hx hb hown hts hK hR kX8 (z_1 b) (j := 3) (by decide) fl_X9_81 (v := .ref (eB E + 4)) rfl dX9_verdict_74 ?_
        refine lv_iload hx hb dX9_verdict_77 (lv_at hl 9 rfl) ?_
        obtain ⟨g79, hf⟩ := br_g hf
        refine x_iald hx hb hK hR (z_4 b) g79 dX9_verdict_79 ?_
        refine lv_goto (tgt := 84) hx hb dX9_verdict_80 (by decide) ?_
        exact wX9_verdict_84 X (fun hf hR hl => ih hf hR hl) (fun hf hR hl => hk143 hf hR hl) hf hR (lv_sub hl [1, 2, 3, 4, 5, 7, 8, 9, 0] rfl)
set_option maxHeartbeats 4000000 in
set_option maxRecDepth 100000 in
theorem wX9_verdict_193 {r : Int32} {M : Mem} {k5 : Int32 → Int32 → Int32 → Int32 → Option Int32} {k172 : Option Int32} {k199 : Int32 → Option Int32} (X : CX E p s m args c meth cX9_verdict 10 (some .int) RX9) (hk5 : ∀ {x1 : Int32} {x2 : Int32} {x3 : Int32} {x4 : Int32} {H : Heap} {locs : List Loc} {ls : Array Slot}, k5 x1 x2 x3 x4 = some r → Rl E (sh_ b) (nn b) s.heap M H locs → lv_has ls 10 [(0, .ref (eB E + 40)), (1, .int x1), (2, .int x2), (3, .int x3), (4, .int x4)] → W p l e (rm 5 0 0) s m args below meth c H locs 0 0 (MQ below (qq E (some (.int r)) (sh_ b) (nn b) M) args s 0 0 (fr E)) (F0 m 5 ls [])) (hk172 : ∀ {H : Heap} {locs : List Loc} {ls : Array Slot}, k172 = some r → Rl E (sh_ b) (nn b) s.heap M H locs → lv_has ls 10 [] → W p l e (rm 5 0 0) s m args below meth c H locs 0 0 (MQ below (qq E (some (.int r)) (sh_ b) (nn b) M) args s 0 0 (fr E)) (F0 m 172 ls [])) (hk199 : ∀ {x3 : Int32} {H : Heap} {locs : List Loc} {ls : Array Slot}, k199 x3 = some r → Rl E (sh_ b) (nn b) s.heap M H locs → lv_has ls 10 [(3, .int x3)] → W p l e (rm 5 0 0) s m args below meth c H locs 0 0 (MQ below (qq E (some (.int r)) (sh_ b) (nn b) M) args s 0 0 (fr E)) (F0 m 199 ls [])) : ∀ {x1 : Int32} {x2 : Int32} {x3 : Int32} {x4 : Int32} {H : Heap} {locs : List Loc} {ls : Array Slot}, fX9_verdict_193 M k5 k172 k199 x1 x2 x3 x4 = some r → Rl E (sh_ b) (nn b) s.heap M H locs → lv_has ls 10 [(0, .ref (eB E + 40)), (1, .int x1), (2, .int x2), (3, .int x3), (4, .int x4)] → W p l e (rm 5 0 0) s m args below meth c H locs 0 0 (MQ below (qq E (some (.int r)) (sh_ b) (nn b) M) args s 0 0 (fr E)) (F0 m 193 ls []) := by
  obtain ⟨hx, hb, hr, hml, hown, hts, hK, hN, hO, hlk, hbs⟩ := id X
  intro x1 x2 x3 x4 H locs ls hf hR hl
  unfold fX9_verdict_193 at hf
  obtain ⟨v193, e193⟩ : ∃ y : Int32, y = (x4 + (1 : Int32)) := ⟨_, rfl⟩
  have hf := nx_at e193 hf
  refine lv_iinc (v := v193) (lv' := [(4, .int v193), (0, .ref (eB E + 40)), (1, .int x1), (2, .int x2), (3, .int x3)]) hx hb dX9_verdict_193 hl (k := 4) rfl (by rw [e193]; rfl) (by decide) rfl (fun ls hl => ?_)
  refine lv_goto (tgt := 5) hx hb dX9_verdict_196 (by decide) ?_
  exact hk5 hf hR (lv_sub hl [1, 2, 3, 4, 0] rfl)
set_option maxHeartbeats 4000000 in
set_option maxRecDepth 100000 in
theorem wX9_verdict_143 {r : Int32} {M : Mem} {k5 : Int32 → Int32 → Int32 → Int32 → Option Int32} {k172 : Option Int32} {k199 : Int32 → Option Int32} (X : CX E p s m args c meth cX9_verdict 10 (some .int) RX9) (hk5 : ∀ {x1 : Int32} {x2 : Int32} {x3 : Int32} {x4 : Int32} {H : Heap} {locs : List Loc} {ls : Array Slot}, k5 x1 x2 x3 x4 = some r → Rl E (sh_ b) (nn b) s.heap M H locs → lv_has ls 10 [(0, .ref (eB E + 40)), (1, .int x1), (2, .int x2), (3, .int x3), (4, .int x4)] → W p l e (rm 5 0 0) s m args below meth c H locs 0 0 (MQ below (qq E (some (.int r)) (sh_ b) (nn b) M) args s 0 0 (fr E)) (F0 m 5 ls [])) (hk172 : ∀ {H : Heap} {locs : List Loc} {ls : Array Slot}, k172 = some r → Rl E (sh_ b) (nn b) s.heap M H locs → lv_has ls 10 [] → W p l e (rm 5 0 0) s m args below meth c H locs 0 0 (MQ below (qq E (some (.int r)) (sh_ b) (nn b) M) args s 0 0 (fr E)) (F0 m 172 ls [])) (hk199 : ∀ {x3 : Int32} {H : Heap} {locs : List Loc} {ls : Array Slot}, k199 x3 = some r → Rl E (sh_ b) (nn b) s.heap M H locs → lv_has ls 10 [(3, .int x3)] → W p l e (rm 5 0 0) s m args below meth c H locs 0 0 (MQ below (qq E (some (.int r)) (sh_ b) (nn b) M) args s 0 0 (fr E)) (F0 m 199 ls [])) : ∀ {x1 : Int32} {x2 : Int32} {x3 : Int32} {x4 : Int32} {x5 : Int32} {x6 : Int32} {x7 : Int32} {H : Heap} {locs : List Loc} {ls : Array Slot}, fX9_verdict_143 M k5 k172 k199 x1 x2 x3 x4 x5 x6 x7 = some r → Rl E (sh_ b) (nn b) s.heap M H locs → lv_has ls 10 [(0, .ref (eB E + 40)), (1, .int x1), (2, .int x2), (3, .int x3), (4, .int x4), (5, .int x5), (6, .int x6), (7, .int x7)] → W p l e (rm 5 0 0) s m args below meth c H locs 0 0 (MQ below (qq E (some (.int r)) (sh_ b) (nn b) M) args s 0 0 (fr E)) (F0 m 143 ls []) := by
  obtain ⟨hx, hb, hr, hml, hown, hts, hK, hN, hO, hlk, hbs⟩ := id X
  intro x1 x2 x3 x4 x5 x6 x7 H locs ls hf hR hl
  unfold fX9_verdict_143 at hf
  refine lv_aload_n hx hb dX9_verdict_143 rfl (lv_at hl 0 rfl) ?_
  refine x_get hx hb hown hts hK hR kX9 (z_40 b) (j := 1) (by decide) fl_X9_50 (v := .ref (eB E + 1)) rfl dX9_verdict_144 ?_
  refine x_get hx hb hown hts hK hR kX8 (z_1 b) (j := 7) (by decide) fl_X9_131 (v := .int (M.1 1 7)) rfl dX9_verdict_147 ?_
  refine lv_iload hx hb dX9_verdict_150 (lv_at hl 7 rfl) ?_
  refine lv_isub hx hb dX9_verdict_152 ?_
  refine lv_topi (fun v153 e153 => ?_)
  have hf := nx_at e153 hf
  refine lv_istore (lv' := [(8, .int v153), (0, .ref (eB E + 40)), (1, .int x1), (2, .int x2), (3, .int x3), (4, .int x4), (5, .int x5), (6, .int x6), (7, .int x7)]) hx hb dX9_verdict_153 hl (by decide) rfl (fun ls hl => ?_)
  refine lv_aload_n hx hb dX9_verdict_155 rfl (lv_at hl 1 rfl) ?_
  refine x_get hx hb hown hts hK hR kX9 (z_40 b) (j := 1) (by decide) fl_X9_50 (v := .ref (eB E + 1)) rfl dX9_verdict_156 ?_
  refine lv_iload hx hb dX9_verdict_159 (lv_at hl 7 rfl) ?_
  refine lv_iload hx hb dX9_verdict_161 (lv_at hl 0 rfl) ?_
  refine lv_iload hx hb dX9_verdict_163 (lv_at hl 7 rfl) ?_
  refine lv_isub hx hb dX9_verdict_165 ?_
  obtain ⟨q166, c166, hf⟩ := br_b hf
  refine x_callV (k := 1) (As := [.int x6, .int (v153 - x6)]) (rest := []) (st1 := [.int q166]) X hR (ctX8_isEnough_t c166) ml_X9_105 im_X8_isEnough se_X8_isEnough in_X8 co_X8_isEnough yo_X8_isEnough rfl kX8 (z_1 b) (rm_ok (by decide) (by decide)) rfl hl.1 rfl rfl (Nat.le_of_ble_eq_true rfl) dX9_verdict_166 ⟨Nat.zero_le _, Nat.zero_le _⟩ (fun H locs hR => ?_)
  refine lv_if_eq (tgt := 174) hx hb dX9_verdict_169 (by decide) (fun q169 => ?_) (fun q169 => ?_)
  · have hf := (br_if hf).1 q169
    refine lv_aload_n hx hb dX9_verdict_174 rfl (lv_at hl 1 rfl) ?_
    refine x_get hx hb hown hts hK hR kX9 (z_40 b) (j := 1) (by decide) fl_X9_50 (v := .ref (eB E + 1)) rfl dX9_verdict_175 ?_
    refine lv_iload hx hb dX9_verdict_178 (lv_at hl 0 rfl) ?_
    refine lv_iload hx hb dX9_verdict_180 (lv_at hl 6 rfl) ?_
    refine lv_isub hx hb dX9_verdict_182 ?_
    refine lv_iload hx hb dX9_verdict_183 (lv_at hl 6 rfl) ?_
    obtain ⟨q185, c185, hf⟩ := br_b hf
    refine x_callV (k := 1) (As := [.int (v153 - x5), .int x5]) (rest := []) (st1 := [.int q185]) X hR (ctX8_isEnough_t c185) ml_X9_105 im_X8_isEnough se_X8_isEnough in_X8 co_X8_isEnough yo_X8_isEnough rfl kX8 (z_1 b) (rm_ok (by decide) (by decide)) rfl hl.1 rfl rfl (Nat.le_of_ble_eq_true rfl) dX9_verdict_185 ⟨Nat.zero_le _, Nat.zero_le _⟩ (fun H locs hR => ?_)
    refine lv_if_eq (tgt := 193) hx hb dX9_verdict_188 (by decide) (fun q188 => ?_) (fun q188 => ?_)
    · have hf := (br_if hf).1 q188
      exact wX9_verdict_193 X (fun hf hR hl => hk5 hf hR hl) (fun hf hR hl => hk172 hf hR hl) (fun hf hR hl => hk199 hf hR hl) hf hR (lv_sub hl [1, 2, 3, 4, 5] rfl)
    · have hf := (br_if hf).2 q188
      refine lv_iconst (v := 1) hx hb dX9_verdict_191 (by decide) ?_
      refine lv_istore_n (lv' := [(3, .int (1 : Int32)), (8, .int v153), (0, .ref (eB E + 40)), (1, .int x1), (2, .int x2), (4, .int x4), (5, .int x5), (6, .int x6), (7, .int x7)]) hx hb dX9_verdict_192 rfl hl (by decide) rfl (fun ls hl => ?_)
      exact wX9_verdict_193 X (fun hf hR hl => hk5 hf hR hl) (fun hf hR hl => hk172 hf hR hl) (fun hf hR hl => hk199 hf hR hl) hf hR (lv_sub hl [2, 3, 4, 0, 5] rfl)
  · have hf := (br_if hf).2 q169
    exact hk172 hf hR (lv_sub hl [] rfl)
set_option maxHeartbeats 4000000 in
set_option maxRecDepth 100000 in
theorem wX9_verdict_5 {r : Int32} {M : Mem} {k172 : Option Int32} {k199 : Int32 → Option Int32} (X : CX E p s m args c meth cX9_verdict 10 (some .int) RX9) (hk172 : ∀ {H : Heap} {locs : List Loc} {ls : Array Slot}, k172 = some r → Rl E (sh_ b) (nn b) s.heap M H locs → lv_has ls 10 [] → W p l e (rm 5 0 0) s m args below meth c H locs 0 0 (MQ below (qq E (some (.int r)) (sh_ b) (nn b) M) args s 0 0 (fr E)) (F0 m 172 ls [])) (hk199 : ∀ {x3 : Int32} {H : Heap} {locs : List Loc} {ls : Array Slot}, k199 x3 = some r → Rl E (sh_ b) (nn b) s.heap M H locs → lv_has ls 10 [(3, .int x3)] → W p l e (rm 5 0 0) s m args below meth c H locs 0 0 (MQ below (qq E (some (.int r)) (sh_ b) (nn b) M) args s 0 0 (fr E)) (F0 m 199 ls [])) : ∀ (n : Nat) {x1 : Int32} {x2 : Int32} {x3 : Int32} {x4 : Int32} {H : Heap} {locs : List Loc} {ls : Array Slot}, fX9_verdict_5 M k172 k199 n x1 x2 x3 x4 = some r → Rl E (sh_ b) (nn b) s.heap M H locs → lv_has ls 10 [(0, .ref (eB E + 40)), (1, .int x1), (2, .int x2), (3, .int x3), (4, .int x4)] → W p l e (rm 5 0 0) s m args below meth c H locs 0 0 (MQ below (qq E (some (.int r)) (sh_ b) (nn b) M) args s 0 0 (fr E)) (F0 m 5 ls []) := by
  obtain ⟨hx, hb, hr, hml, hown, hts, hK, hN, hO, hlk, hbs⟩ := id X
  intro n
  induction n with
  | zero =>
    intro x1 x2 x3 x4 H locs ls hf hR hl
    exact absurd (show none = some _ from hf) (fun h => by cases h)
  | succ n ih =>
    intro x1 x2 x3 x4 H locs ls hf hR hl
    rw [fX9_verdict_5] at hf
    refine lv_iload hx hb dX9_verdict_5 (lv_at hl 4 rfl) ?_
    refine lv_aload_n hx hb dX9_verdict_7 rfl (lv_at hl 0 rfl) ?_
    refine x_get hx hb hown hts hK hR kX9 (z_40 b) (j := 1) (by decide) fl_X9_50 (v := .ref (eB E + 1)) rfl dX9_verdict_8 ?_
    refine x_get hx hb hown hts hK hR kX8 (z_1 b) (j := 8) (by decide) fl_X9_68 (v := .int (M.1 1 8)) rfl dX9_verdict_11 ?_
    refine lv_icmp_ge (tgt := 199) hx hb dX9_verdict_14 (by decide) (fun q14 => ?_) (fun q14 => ?_)
    · have hf := (br_if hf).1 q14
      exact hk199 hf hR (lv_sub hl [3] rfl)
    · have hf := (br_if hf).2 q14
      refine lv_iload hx hb dX9_verdict_17 (lv_at hl 4 rfl) ?_
      refine lv_iload_n hx hb dX9_verdict_19 rfl (lv_at hl 1 rfl) ?_
      refine lv_icmp_ne (tgt := 26) hx hb dX9_verdict_20 (by decide) (fun q20 => ?_) (fun q20 => ?_)
      · have hf := (br_if hf).2 q20
        refine lv_iconst (v := 0) hx hb dX9_verdict_26 (by decide) ?_
        refine lv_istore (lv' := [(5, .int (0 : Int32)), (0, .ref (eB E + 40)), (1, .int x1), (2, .int x2), (3, .int x3), (4, .int x4)]) hx hb dX9_verdict_27 hl (by decide) rfl (fun ls hl => ?_)
        refine lv_iconst (v := 0) hx hb dX9_verdict_29 (by decide) ?_
        refine lv_istore (lv' := [(6, .int (0 : Int32)), (5, .int (0 : Int32)), (0, .ref (eB E + 40)), (1, .int x1), (2, .int x2), (3, .int x3), (4, .int x4)]) hx hb dX9_verdict_30 hl (by decide) rfl (fun ls hl => ?_)
        refine lv_iconst (v := 0) hx hb dX9_verdict_32 (by decide) ?_
        refine lv_istore (lv' := [(7, .int (0 : Int32)), (6, .int (0 : Int32)), (5, .int (0 : Int32)), (0, .ref (eB E + 40)), (1, .int x1), (2, .int x2), (3, .int x3), (4, .int x4)]) hx hb dX9_verdict_33 hl (by decide) rfl (fun ls hl => ?_)
        refine lv_iconst (v := 0) hx hb dX9_verdict_35 (by decide) ?_
        refine lv_istore (lv' := [(8, .int (0 : Int32)), (7, .int (0 : Int32)), (6, .int (0 : Int32)), (5, .int (0 : Int32)), (0, .ref (eB E + 40)), (1, .int x1), (2, .int x2), (3, .int x3), (4, .int x4)]) hx hb dX9_verdict_36 hl (by decide) rfl (fun ls hl => ?_)
        exact wX9_verdict_38 X (fun hf hR hl => wX9_verdict_143 X (fun hf hR hl => ih hf hR hl) (fun hf hR hl => hk172 hf hR hl) (fun hf hR hl => hk199 hf hR hl) hf hR hl) FU hf hR (lv_sub hl [4, 5, 6, 7, 8, 3, 2, 1, 0] rfl)
      · have hf := (br_if hf).1 q20
        refine lv_goto (tgt := 193) hx hb dX9_verdict_23 (by decide) ?_
        exact wX9_verdict_193 X (fun hf hR hl => ih hf hR hl) (fun hf hR hl => hk172 hf hR hl) (fun hf hR hl => hk199 hf hR hl) hf hR hl
set_option maxHeartbeats 4000000 in
set_option maxRecDepth 100000 in
theorem wX9_verdict_172 {r : Int32} {M : Mem} (X : CX E p s m args c meth cX9_verdict 10 (some .int) RX9) : ∀ {H : Heap} {locs : List Loc} {ls : Array Slot}, fX9_verdict_172 M = some r → Rl E (sh_ b) (nn b) s.heap M H locs → lv_has ls 10 [] → W p l e (rm 5 0 0) s m args below meth c H locs 0 0 (MQ below (qq E (some (.int r)) (sh_ b) (nn b) M) args s 0 0 (fr E)) (F0 m 172 ls []) := by
  obtain ⟨hx, hb, hr, hml, hown, hts, hK, hN, hO, hlk, hbs⟩ := id X
  intro H locs ls hf hR hl
  unfold fX9_verdict_172 at hf
  refine lv_iconst (v := 0) hx hb dX9_verdict_172 (by decide) ?_
  cases hf
  exact x_iret hx hb hr hlk hR dX9_verdict_173
set_option maxHeartbeats 4000000 in
set_option maxRecDepth 100000 in
theorem wX9_verdict_199 {r : Int32} {M : Mem} (X : CX E p s m args c meth cX9_verdict 10 (some .int) RX9) : ∀ {x3 : Int32} {H : Heap} {locs : List Loc} {ls : Array Slot}, fX9_verdict_199 M x3 = some r → Rl E (sh_ b) (nn b) s.heap M H locs → lv_has ls 10 [(3, .int x3)] → W p l e (rm 5 0 0) s m args below meth c H locs 0 0 (MQ below (qq E (some (.int r)) (sh_ b) (nn b) M) args s 0 0 (fr E)) (F0 m 199 ls []) := by
  obtain ⟨hx, hb, hr, hml, hown, hts, hK, hN, hO, hlk, hbs⟩ := id X
  intro x3 H locs ls hf hR hl
  unfold fX9_verdict_199 at hf
  refine lv_iload_n hx hb dX9_verdict_199 rfl (lv_at hl 0 rfl) ?_
  cases hf
  exact x_iret hx hb hr hlk hR dX9_verdict_200
set_option maxHeartbeats 4000000 in
set_option maxRecDepth 100000 in
theorem wX9_verdict_0 {r : Int32} {M : Mem} (X : CX E p s m args c meth cX9_verdict 10 (some .int) RX9) : ∀ {x1 : Int32} {x2 : Int32} {H : Heap} {locs : List Loc} {ls : Array Slot}, fX9_verdict M x1 x2 = some r → Rl E (sh_ b) (nn b) s.heap M H locs → lv_has ls 10 [(0, .ref (eB E + 40)), (1, .int x1), (2, .int x2)] → W p l e (rm 5 0 0) s m args below meth c H locs 0 0 (MQ below (qq E (some (.int r)) (sh_ b) (nn b) M) args s 0 0 (fr E)) (F0 m 0 ls []) := by
  obtain ⟨hx, hb, hr, hml, hown, hts, hK, hN, hO, hlk, hbs⟩ := id X
  intro x1 x2 H locs ls hf hR hl
  unfold fX9_verdict at hf
  refine lv_iconst (v := 2) hx hb dX9_verdict_0 (by decide) ?_
  refine lv_istore_n (lv' := [(3, .int (2 : Int32)), (0, .ref (eB E + 40)), (1, .int x1), (2, .int x2)]) hx hb dX9_verdict_1 rfl hl (by decide) rfl (fun ls hl => ?_)
  refine lv_iconst (v := 0) hx hb dX9_verdict_2 (by decide) ?_
  refine lv_istore (lv' := [(4, .int (0 : Int32)), (3, .int (2 : Int32)), (0, .ref (eB E + 40)), (1, .int x1), (2, .int x2)]) hx hb dX9_verdict_3 hl (by decide) rfl (fun ls hl => ?_)
  exact wX9_verdict_5 X (fun hf hR hl => wX9_verdict_172 X hf hR hl) (fun hf hR hl => wX9_verdict_199 X hf hR hl) FU hf hR (lv_sub hl [2, 3, 4, 1, 0] rfl)
theorem ctX9_verdict {l : Launch} {E : Ge} {b : Bool} {M : Mem} {x1 : Int32} {x2 : Int32} {r : Int32} (h : fX9_verdict M x1 x2 = some r) : CT l E yX9_verdict cX9_verdict 10 (some .int) 5 0 0 [.ref (eB E + 40), .int x1, .int x2] (some (.int r)) (sh_ b) (nn b) M (sh_ b) (nn b) M := by
  refine met_of (by decide) (Nat.le_of_ble_eq_true rfl) ?_
  intro p e s m args below meth c X _ hR ls hl
  exact wX9_verdict_0 X h hR hl
end WK
