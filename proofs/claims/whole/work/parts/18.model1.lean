section WK
variable {p : Program} {l : Launch} {e : Env} {s : State} {m : MethodId} {args : Array Value} {below : List Frame} {meth : Method} {c : Code} {E : Ge} {b : Bool}
def fX11_end (x1 : Int32) (M : Mem) : Option (Int32 × Mem) := (fX11_in M (x1.toInt64) (0 : Int64) ((M.1 47 1).toInt64)).bind (fun q8 => (if q8 = 0 then some ((0 : Int32), M) else nx (sI M 47 1 x1) (fun M18 => some ((1 : Int32), M18))))
set_option maxHeartbeats 4000000 in
set_option maxRecDepth 100000 in
theorem wX11_end_0 {r : Int32} {M1 : Mem} (X : CX E p s m args c meth cX11_end 2 (some .boolean) RX11) : ∀ {x1 : Int32} {M : Mem} {H : Heap} {locs : List Loc} {ls : Array Slot}, fX11_end x1 M = some (r, M1) → Rl E (sh_ b) (nn b) s.heap M H locs → lv_has ls 2 [(0, .ref (eB E + 47)), (1, .int x1)] → W p l e (rm 2 0 0) s m args below meth c H locs 0 0 (MQ below (qq E (some (.int r)) (sh_ b) (nn b) M1) args s 0 0 (fr E)) (F0 m 0 ls []) := by
  obtain ⟨hx, hb, hr, hml, hown, hts, hK, hN, hO, hlk, hbs⟩ := id X
  intro x1 M H locs ls hf hR hl
  unfold fX11_end at hf
  refine lv_iload_n hx hb dX11_end_0 rfl (lv_at hl 1 rfl) ?_
  refine lv_i2l (v := x1.toInt64) hx hb dX11_end_1 rfl ?_
  refine lv_lconst (v := 0) hx hb dX11_end_2 (by decide) ?_
  refine lv_aload_n hx hb dX11_end_3 rfl (lv_at hl 0 rfl) ?_
  refine x_get hx hb hown hts hK hR kX11 (z_47 b) (j := 1) (by decide) fl_X11_114 (v := .int (M.1 47 1)) rfl dX11_end_4 ?_
  refine lv_i2l (v := (M.1 47 1).toInt64) hx hb dX11_end_7 rfl ?_
  obtain ⟨q8, c8, hf⟩ := br_b hf
  refine x_callS (As := [.long x1.toInt64, .long (0 : Int64), .long (M.1 47 1).toInt64]) (rest := []) (st1 := [.int q8]) X hR (ctX11_in c8) ml_X11_122 st_X11_in in_X11 co_X11_in yo_X11_in (rm_ok (by decide) (by decide)) rfl hl.1 rfl rfl (Nat.le_of_ble_eq_true rfl) dX11_end_8 ⟨Nat.zero_le _, Nat.zero_le _⟩ (fun H locs hR => ?_)
  refine lv_if_ne (tgt := 16) hx hb dX11_end_11 (by decide) (fun q11 => ?_) (fun q11 => ?_)
  · have hf := (br_if hf).2 q11
    refine lv_aload_n hx hb dX11_end_16 rfl (lv_at hl 0 rfl) ?_
    refine lv_iload_n hx hb dX11_end_17 rfl (lv_at hl 1 rfl) ?_
    refine x_puti hx hb hown hts hK hR kX11 (z_47 b) (j := 1) (by decide) fl_X11_114 rfl rfl rfl rfl dX11_end_18 (fun H locs hR => ?_)
    obtain ⟨M18, e18⟩ : ∃ y : Mem, y = (sI M 47 1 x1) := ⟨_, rfl⟩
    have hf := nx_at e18 hf
    have hR : Rl E (sh_ b) (nn b) s.heap M18 H locs := by rw [e18]; exact hR
    refine lv_iconst (v := 1) hx hb dX11_end_21 (by decide) ?_
    cases hf
    exact x_zret hx hb hr hlk hR (by decide) dX11_end_22
  · have hf := (br_if hf).1 q11
    refine lv_iconst (v := 0) hx hb dX11_end_14 (by decide) ?_
    cases hf
    exact x_zret hx hb hr hlk hR (by decide) dX11_end_15
theorem ctX11_end {l : Launch} {E : Ge} {b : Bool} {M : Mem} {x1 : Int32} {r : Int32} {M1 : Mem} (h : fX11_end x1 M = some (r, M1)) : CT l E yX11_end cX11_end 2 (some .boolean) 2 0 0 [.ref (eB E + 47), .int x1] (some (.int r)) (sh_ b) (nn b) M (sh_ b) (nn b) M1 := by
  refine met_of (by decide) (Nat.le_of_ble_eq_true rfl) ?_
  intro p e s m args below meth c X _ hR ls hl
  exact wX11_end_0 X h hR hl
def fX11_far_123 (k12 : Int32 → Int32 → Int32 → Mem → Option Mem) (k129 : Mem → Option Mem) (x1 : Int32) (x2 : Int32) (x3 : Int32) (M : Mem) : Option Mem := nx (x3 + (1 : Int32)) (fun v123 => k12 x1 x2 v123 M)
def fX11_far_12 (k129 : Mem → Option Mem) : Nat → Int32 → Int32 → Int32 → Mem → Option Mem
  | 0, _, _, _, _ => none
  | n + 1, x1, x2, x3, M => (if (M.1 47 27) ≤ x3 then k129 M else (if inb x3 105 = true then (if inb x3 105 = true then (if inb x3 105 = true then nx ((((M.1 79 (ix x3)).toInt64 * x1.toInt64) + ((M.1 80 (ix x3)).toInt64 * x2.toInt64)) - (M.1 81 (ix x3)).toInt64) (fun v49 => (if inb x3 105 = true then (if inb x3 105 = true then (if inb x3 105 = true then (if inb x3 105 = true then nx (((M.1 79 (ix x3)).toInt64 * (M.1 79 (ix x3)).toInt64) + ((M.1 80 (ix x3)).toInt64 * (M.1 80 (ix x3)).toInt64)) (fun v82 => (if 0 < (lg_cmp ((v49 * v49) * (M.2 47 34)) ((M.2 47 33) * v82)) then nx (sL M 47 33 (v49 * v49)) (fun M114 => nx (sL M114 47 34 v82) (fun M120 => fX11_far_123 (fX11_far_12 k129 n) k129 x1 x2 x3 M120)) else fX11_far_123 (fX11_far_12 k129 n) k129 x1 x2 x3 M)) else none) else none) else none) else none)) else none) else none) else none))
def fX11_far_129 (M : Mem) : Option Mem := some M
def fX11_far (x1 : Int32) (x2 : Int32) (M : Mem) : Option Mem := nx (sL M 47 33 (0 : Int64)) (fun M2 => nx (sL M2 47 34 (1 : Int64)) (fun M7 => fX11_far_12 fX11_far_129 FU x1 x2 (0 : Int32) M7))
set_option maxHeartbeats 4000000 in
set_option maxRecDepth 100000 in
theorem wX11_far_123 {M1 : Mem} {k12 : Int32 → Int32 → Int32 → Mem → Option Mem} {k129 : Mem → Option Mem} (X : CX E p s m args c meth cX11_far 8 none RX11) (hk12 : ∀ {x1 : Int32} {x2 : Int32} {x3 : Int32} {M : Mem} {H : Heap} {locs : List Loc} {ls : Array Slot}, k12 x1 x2 x3 M = some M1 → Rl E (sh_ b) (nn b) s.heap M H locs → lv_has ls 8 [(0, .ref (eB E + 47)), (1, .int x1), (2, .int x2), (3, .int x3)] → W p l e (rm 1 0 0) s m args below meth c H locs 0 0 (MQ below (qq E none (sh_ b) (nn b) M1) args s 0 0 (fr E)) (F0 m 12 ls [])) (hk129 : ∀ {M : Mem} {H : Heap} {locs : List Loc} {ls : Array Slot}, k129 M = some M1 → Rl E (sh_ b) (nn b) s.heap M H locs → lv_has ls 8 [] → W p l e (rm 1 0 0) s m args below meth c H locs 0 0 (MQ below (qq E none (sh_ b) (nn b) M1) args s 0 0 (fr E)) (F0 m 129 ls [])) : ∀ {x1 : Int32} {x2 : Int32} {x3 : Int32} {M : Mem} {H : Heap} {locs : List Loc} {ls : Array Slot}, fX11_far_123 k12 k129 x1 x2 x3 M = some M1 → Rl E (sh_ b) (nn b) s.heap M H locs → lv_has ls 8 [(0, .ref (eB E + 47)), (1, .int x1), (2, .int x2), (3, .int x3)] → W p l e (rm 1 0 0) s m args below meth c H locs 0 0 (MQ below (qq E none (sh_ b) (nn b) M1) args s 0 0 (fr E)) (F0 m 123 ls []) := by
  obtain ⟨hx, hb, hr, hml, hown, hts, hK, hN, hO, hlk, hbs⟩ := id X
  intro x1 x2 x3 M H locs ls hf hR hl
  unfold fX11_far_123 at hf
  obtain ⟨v123, e123⟩ : ∃ y : Int32, y = (x3 + (1 : Int32)) := ⟨_, rfl⟩
  have hf := nx_at e123 hf
  refine lv_iinc (v := v123) (lv' := [(3, .int v123), (0, .ref (eB E + 47)), (1, .int x1), (2, .int x2)]) hx hb dX11_far_123 hl (k := 3) rfl (by rw [e123]; rfl) (by decide) rfl (fun ls hl => ?_)
  refine lv_goto (tgt := 12) hx hb dX11_far_126 (by decide) ?_
  exact hk12 hf hR (lv_sub hl [1, 2, 3, 0] rfl)
set_option maxHeartbeats 4000000 in
set_option maxRecDepth 100000 in
theorem wX11_far_12 {M1 : Mem} {k129 : Mem → Option Mem} (X : CX E p s m args c meth cX11_far 8 none RX11) (hk129 : ∀ {M : Mem} {H : Heap} {locs : List Loc} {ls : Array Slot}, k129 M = some M1 → Rl E (sh_ b) (nn b) s.heap M H locs → lv_has ls 8 [] → W p l e (rm 1 0 0) s m args below meth c H locs 0 0 (MQ below (qq E none (sh_ b) (nn b) M1) args s 0 0 (fr E)) (F0 m 129 ls [])) : ∀ (n : Nat) {x1 : Int32} {x2 : Int32} {x3 : Int32} {M : Mem} {H : Heap} {locs : List Loc} {ls : Array Slot}, fX11_far_12 k129 n x1 x2 x3 M = some M1 → Rl E (sh_ b) (nn b) s.heap M H locs → lv_has ls 8 [(0, .ref (eB E + 47)), (1, .int x1), (2, .int x2), (3, .int x3)] → W p l e (rm 1 0 0) s m args below meth c H locs 0 0 (MQ below (qq E none (sh_ b) (nn b) M1) args s 0 0 (fr E)) (F0 m 12 ls []) := by
  obtain ⟨hx, hb, hr, hml, hown, hts, hK, hN, hO, hlk, hbs⟩ := id X
  intro n
  induction n with
  | zero =>
    intro x1 x2 x3 M H locs ls hf hR hl
    exact absurd (show none = some _ from hf) (fun h => by cases h)
  | succ n ih =>
    intro x1 x2 x3 M H locs ls hf hR hl
    rw [fX11_far_12] at hf
    refine lv_iload_n hx hb dX11_far_12 rfl (lv_at hl 3 rfl) ?_
    refine lv_aload_n hx hb dX11_far_13 rfl (lv_at hl 0 rfl) ?_
    refine x_get hx hb hown hts hK hR kX11 (z_47 b) (j := 27) (by decide) fl_X11_288 (v := .int (M.1 47 27)) rfl dX11_far_14 ?_
    refine lv_icmp_ge (tgt := 129) hx hb dX11_far_17 (by decide) (fun q17 => ?_) (fun q17 => ?_)
    · have hf := (br_if hf).1 q17
      exact hk129 hf hR (lv_sub hl [] rfl)
    · have hf := (br_if hf).2 q17
      refine lv_aload_n hx hb dX11_far_20 rfl (lv_at hl 0 rfl) ?_
      refine x_get hx hb hown hts hK hR kX11 (z_47 b) (j := 24) (by decide) fl_X11_69 (v := .ref (eB E + 79)) rfl dX11_far_21 ?_
      refine lv_iload_n hx hb dX11_far_24 rfl (lv_at hl 3 rfl) ?_
      obtain ⟨g25, hf⟩ := br_g hf
      refine x_iald hx hb hK hR (z_79 b) g25 dX11_far_25 ?_
      refine lv_i2l (v := (M.1 79 (ix x3)).toInt64) hx hb dX11_far_26 rfl ?_
      refine lv_iload_n hx hb dX11_far_27 rfl (lv_at hl 1 rfl) ?_
      refine lv_i2l (v := x1.toInt64) hx hb dX11_far_28 rfl ?_
      refine lv_lmul hx hb dX11_far_29 ?_
      refine lv_aload_n hx hb dX11_far_30 rfl (lv_at hl 0 rfl) ?_
      refine x_get hx hb hown hts hK hR kX11 (z_47 b) (j := 25) (by decide) fl_X11_72 (v := .ref (eB E + 80)) rfl dX11_far_31 ?_
      refine lv_iload_n hx hb dX11_far_34 rfl (lv_at hl 3 rfl) ?_
      obtain ⟨g35, hf⟩ := br_g hf
      refine x_iald hx hb hK hR (z_80 b) g35 dX11_far_35 ?_
      refine lv_i2l (v := (M.1 80 (ix x3)).toInt64) hx hb dX11_far_36 rfl ?_
      refine lv_iload_n hx hb dX11_far_37 rfl (lv_at hl 2 rfl) ?_
      refine lv_i2l (v := x2.toInt64) hx hb dX11_far_38 rfl ?_
      refine lv_lmul hx hb dX11_far_39 ?_
      refine lv_ladd hx hb dX11_far_40 ?_
      refine lv_aload_n hx hb dX11_far_41 rfl (lv_at hl 0 rfl) ?_
      refine x_get hx hb hown hts hK hR kX11 (z_47 b) (j := 26) (by decide) fl_X11_75 (v := .ref (eB E + 81)) rfl dX11_far_42 ?_
      refine lv_iload_n hx hb dX11_far_45 rfl (lv_at hl 3 rfl) ?_
      obtain ⟨g46, hf⟩ := br_g hf
      refine x_iald hx hb hK hR (z_81 b) g46 dX11_far_46 ?_
      refine lv_i2l (v := (M.1 81 (ix x3)).toInt64) hx hb dX11_far_47 rfl ?_
      refine lv_lsub hx hb dX11_far_48 ?_
      refine lv_topl (fun v49 e49 => ?_)
      have hf := nx_at e49 hf
      refine lv_lstore (lv' := [(4, .long v49), (0, .ref (eB E + 47)), (1, .int x1), (2, .int x2), (3, .int x3)]) hx hb dX11_far_49 hl (by decide) rfl (fun ls hl => ?_)
      refine lv_aload_n hx hb dX11_far_51 rfl (lv_at hl 1 rfl) ?_
      refine x_get hx hb hown hts hK hR kX11 (z_47 b) (j := 24) (by decide) fl_X11_69 (v := .ref (eB E + 79)) rfl dX11_far_52 ?_
      refine lv_iload_n hx hb dX11_far_55 rfl (lv_at hl 4 rfl) ?_
      obtain ⟨g56, hf⟩ := br_g hf
      refine x_iald hx hb hK hR (z_79 b) g56 dX11_far_56 ?_
      refine lv_i2l (v := (M.1 79 (ix x3)).toInt64) hx hb dX11_far_57 rfl ?_
      refine lv_aload_n hx hb dX11_far_58 rfl (lv_at hl 1 rfl) ?_
      refine x_get hx hb hown hts hK hR kX11 (z_47 b) (j := 24) (by decide) fl_X11_69 (v := .ref (eB E + 79)) rfl dX11_far_59 ?_
      refine lv_iload_n hx hb dX11_far_62 rfl (lv_at hl 4 rfl) ?_
      obtain ⟨g63, hf⟩ := br_g hf
      refine x_iald hx hb hK hR (z_79 b) g63 dX11_far_63 ?_
      refine lv_i2l (v := (M.1 79 (ix x3)).toInt64) hx hb dX11_far_64 rfl ?_
      refine lv_lmul hx hb dX11_far_65 ?_
      refine lv_aload_n hx hb dX11_far_66 rfl (lv_at hl 1 rfl) ?_
      refine x_get hx hb hown hts hK hR kX11 (z_47 b) (j := 25) (by decide) fl_X11_72 (v := .ref (eB E + 80)) rfl dX11_far_67 ?_
      refine lv_iload_n hx hb dX11_far_70 rfl (lv_at hl 4 rfl) ?_
      obtain ⟨g71, hf⟩ := br_g hf
      refine x_iald hx hb hK hR (z_80 b) g71 dX11_far_71 ?_
      refine lv_i2l (v := (M.1 80 (ix x3)).toInt64) hx hb dX11_far_72 rfl ?_
      refine lv_aload_n hx hb dX11_far_73 rfl (lv_at hl 1 rfl) ?_
      refine x_get hx hb hown hts hK hR kX11 (z_47 b) (j := 25) (by decide) fl_X11_72 (v := .ref (eB E + 80)) rfl dX11_far_74 ?_
      refine lv_iload_n hx hb dX11_far_77 rfl (lv_at hl 4 rfl) ?_
      obtain ⟨g78, hf⟩ := br_g hf
      refine x_iald hx hb hK hR (z_80 b) g78 dX11_far_78 ?_
      refine lv_i2l (v := (M.1 80 (ix x3)).toInt64) hx hb dX11_far_79 rfl ?_
      refine lv_lmul hx hb dX11_far_80 ?_
      refine lv_ladd hx hb dX11_far_81 ?_
      refine lv_topl (fun v82 e82 => ?_)
      have hf := nx_at e82 hf
      refine lv_lstore (lv' := [(6, .long v82), (4, .long v49), (0, .ref (eB E + 47)), (1, .int x1), (2, .int x2), (3, .int x3)]) hx hb dX11_far_82 hl (by decide) rfl (fun ls hl => ?_)
      refine lv_lload hx hb dX11_far_84 (lv_at hl 1 rfl) ?_
      refine lv_lload hx hb dX11_far_86 (lv_at hl 1 rfl) ?_
      refine lv_lmul hx hb dX11_far_88 ?_
      refine lv_aload_n hx hb dX11_far_89 rfl (lv_at hl 2 rfl) ?_
      refine x_get hx hb hown hts hK hR kX11 (z_47 b) (j := 34) (by decide) fl_X11_340 (v := .long (M.2 47 34)) rfl dX11_far_90 ?_
      refine lv_lmul hx hb dX11_far_93 ?_
      refine lv_aload_n hx hb dX11_far_94 rfl (lv_at hl 2 rfl) ?_
      refine x_get hx hb hown hts hK hR kX11 (z_47 b) (j := 33) (by decide) fl_X11_336 (v := .long (M.2 47 33)) rfl dX11_far_95 ?_
      refine lv_lload hx hb dX11_far_98 (lv_at hl 0 rfl) ?_
      refine lv_lmul hx hb dX11_far_100 ?_
      refine W.lcmp hx hb dX11_far_101 ?_
      refine lv_if_gt (tgt := 108) hx hb dX11_far_102 (by decide) (fun q102 => ?_) (fun q102 => ?_)
      · have hf := (br_if hf).1 q102
        refine lv_aload_n hx hb dX11_far_108 rfl (lv_at hl 2 rfl) ?_
        refine lv_lload hx hb dX11_far_109 (lv_at hl 1 rfl) ?_
        refine lv_lload hx hb dX11_far_111 (lv_at hl 1 rfl) ?_
        refine lv_lmul hx hb dX11_far_113 ?_
        refine x_putl hx hb hown hts hK hR kX11 (z_47 b) (j := 33) (by decide) fl_X11_336 rfl rfl rfl rfl dX11_far_114 (fun H locs hR => ?_)
        obtain ⟨M114, e114⟩ : ∃ y : Mem, y = (sL M 47 33 (v49 * v49)) := ⟨_, rfl⟩
        have hf := nx_at e114 hf
        have hR : Rl E (sh_ b) (nn b) s.heap M114 H locs := by rw [e114]; exact hR
        refine lv_aload_n hx hb dX11_far_117 rfl (lv_at hl 2 rfl) ?_
        refine lv_lload hx hb dX11_far_118 (lv_at hl 0 rfl) ?_
        refine x_putl hx hb hown hts hK hR kX11 (z_47 b) (j := 34) (by decide) fl_X11_340 rfl rfl rfl rfl dX11_far_120 (fun H locs hR => ?_)
        obtain ⟨M120, e120⟩ : ∃ y : Mem, y = (sL M114 47 34 v82) := ⟨_, rfl⟩
        have hf := nx_at e120 hf
        have hR : Rl E (sh_ b) (nn b) s.heap M120 H locs := by rw [e120]; exact hR
        exact wX11_far_123 X (fun hf hR hl => ih hf hR hl) (fun hf hR hl => hk129 hf hR hl) hf hR (lv_sub hl [2, 3, 4, 5] rfl)
      · have hf := (br_if hf).2 q102
        refine lv_goto (tgt := 123) hx hb dX11_far_105 (by decide) ?_
        exact wX11_far_123 X (fun hf hR hl => ih hf hR hl) (fun hf hR hl => hk129 hf hR hl) hf hR (lv_sub hl [2, 3, 4, 5] rfl)
set_option maxHeartbeats 4000000 in
set_option maxRecDepth 100000 in
theorem wX11_far_129 {M1 : Mem} (X : CX E p s m args c meth cX11_far 8 none RX11) : ∀ {M : Mem} {H : Heap} {locs : List Loc} {ls : Array Slot}, fX11_far_129 M = some M1 → Rl E (sh_ b) (nn b) s.heap M H locs → lv_has ls 8 [] → W p l e (rm 1 0 0) s m args below meth c H locs 0 0 (MQ below (qq E none (sh_ b) (nn b) M1) args s 0 0 (fr E)) (F0 m 129 ls []) := by
  obtain ⟨hx, hb, hr, hml, hown, hts, hK, hN, hO, hlk, hbs⟩ := id X
  intro M H locs ls hf hR hl
  unfold fX11_far_129 at hf
  cases hf
  exact x_vret hx hb hr hlk hR dX11_far_129
set_option maxHeartbeats 4000000 in
set_option maxRecDepth 100000 in
theorem wX11_far_0 {M1 : Mem} (X : CX E p s m args c meth cX11_far 8 none RX11) : ∀ {x1 : Int32} {x2 : Int32} {M : Mem} {H : Heap} {locs : List Loc} {ls : Array Slot}, fX11_far x1 x2 M = some M1 → Rl E (sh_ b) (nn b) s.heap M H locs → lv_has ls 8 [(0, .ref (eB E + 47)), (1, .int x1), (2, .int x2)] → W p l e (rm 1 0 0) s m args below meth c H locs 0 0 (MQ below (qq E none (sh_ b) (nn b) M1) args s 0 0 (fr E)) (F0 m 0 ls []) := by
  obtain ⟨hx, hb, hr, hml, hown, hts, hK, hN, hO, hlk, hbs⟩ := id X
  intro x1 x2 M H locs ls hf hR hl
  unfold fX11_far at hf
  refine lv_aload_n hx hb dX11_far_0 rfl (lv_at hl 0 rfl) ?_
  refine lv_lconst (v := 0) hx hb dX11_far_1 (by decide) ?_
  refine x_putl hx hb hown hts hK hR kX11 (z_47 b) (j := 33) (by decide) fl_X11_336 rfl rfl rfl rfl dX11_far_2 (fun H locs hR => ?_)
  obtain ⟨M2, e2⟩ : ∃ y : Mem, y = (sL M 47 33 (0 : Int64)) := ⟨_, rfl⟩
  have hf := nx_at e2 hf
  have hR : Rl E (sh_ b) (nn b) s.heap M2 H locs := by rw [e2]; exact hR
  refine lv_aload_n hx hb dX11_far_5 rfl (lv_at hl 0 rfl) ?_
  refine lv_lconst (v := 1) hx hb dX11_far_6 (by decide) ?_
  refine x_putl hx hb hown hts hK hR kX11 (z_47 b) (j := 34) (by decide) fl_X11_340 rfl rfl rfl rfl dX11_far_7 (fun H locs hR => ?_)
  obtain ⟨M7, e7⟩ : ∃ y : Mem, y = (sL M2 47 34 (1 : Int64)) := ⟨_, rfl⟩
  have hf := nx_at e7 hf
  have hR : Rl E (sh_ b) (nn b) s.heap M7 H locs := by rw [e7]; exact hR
  refine lv_iconst (v := 0) hx hb dX11_far_10 (by decide) ?_
  refine lv_istore_n (lv' := [(3, .int (0 : Int32)), (0, .ref (eB E + 47)), (1, .int x1), (2, .int x2)]) hx hb dX11_far_11 rfl hl (by decide) rfl (fun ls hl => ?_)
  exact wX11_far_12 X (fun hf hR hl => wX11_far_129 X hf hR hl) FU hf hR (lv_sub hl [1, 2, 3, 0] rfl)
theorem ctX11_far {l : Launch} {E : Ge} {b : Bool} {M : Mem} {x1 : Int32} {x2 : Int32} {M1 : Mem} (h : fX11_far x1 x2 M = some M1) : CT l E yX11_far cX11_far 8 none 1 0 0 [.ref (eB E + 47), .int x1, .int x2] none (sh_ b) (nn b) M (sh_ b) (nn b) M1 := by
  refine met_of (by decide) (Nat.le_of_ble_eq_true rfl) ?_
  intro p e s m args below meth c X _ hR ls hl
  exact wX11_far_0 X h hR hl
def fX11_isLetter_17 (M : Mem) (s0 : Int32) : Option Int32 := some (s0 &&& 1)
def fX11_isLetter_16 (M : Mem) : Option Int32 := fX11_isLetter_17 M (0 : Int32)
def fX11_isLetter (M : Mem) (x0 : Int32) : Option Int32 := (if x0 < (97 : Int32) then fX11_isLetter_16 M else (if (122 : Int32) < x0 then fX11_isLetter_16 M else fX11_isLetter_17 M (1 : Int32)))
set_option maxHeartbeats 4000000 in
set_option maxRecDepth 100000 in
theorem wX11_isLetter_17 {r : Int32} {M : Mem} (X : CX E p s m args c meth cX11_isLetter 1 (some .boolean) RX11) : ∀ {s0 : Int32} {H : Heap} {locs : List Loc} {ls : Array Slot}, fX11_isLetter_17 M s0 = some r → Rl E (sh_ b) (nn b) s.heap M H locs → lv_has ls 1 [] → W p l e (rm 1 0 0) s m args below meth c H locs 0 0 (MQ below (qq E (some (.int r)) (sh_ b) (nn b) M) args s 0 0 (fr E)) (F0 m 17 ls [.int s0]) := by
  obtain ⟨hx, hb, hr, hml, hown, hts, hK, hN, hO, hlk, hbs⟩ := id X
  intro s0 H locs ls hf hR hl
  unfold fX11_isLetter_17 at hf
  cases hf
  exact x_zret hx hb hr hlk hR rfl dX11_isLetter_17
set_option maxHeartbeats 4000000 in
set_option maxRecDepth 100000 in
theorem wX11_isLetter_16 {r : Int32} {M : Mem} (X : CX E p s m args c meth cX11_isLetter 1 (some .boolean) RX11) : ∀ {H : Heap} {locs : List Loc} {ls : Array Slot}, fX11_isLetter_16 M = some r → Rl E (sh_ b) (nn b) s.heap M H locs → lv_has ls 1 [] → W p l e (rm 1 0 0) s m args below meth c H locs 0 0 (MQ below (qq E (some (.int r)) (sh_ b) (nn b) M) args s 0 0 (fr E)) (F0 m 16 ls []) := by
  obtain ⟨hx, hb, hr, hml, hown, hts, hK, hN, hO, hlk, hbs⟩ := id X
  intro H locs ls hf hR hl
  unfold fX11_isLetter_16 at hf
  refine lv_iconst (v := 0) hx hb dX11_isLetter_16 (by decide) ?_
  exact wX11_isLetter_17 X hf hR hl
set_option maxHeartbeats 4000000 in
set_option maxRecDepth 100000 in
theorem wX11_isLetter_0 {r : Int32} {M : Mem} (X : CX E p s m args c meth cX11_isLetter 1 (some .boolean) RX11) : ∀ {x0 : Int32} {H : Heap} {locs : List Loc} {ls : Array Slot}, fX11_isLetter M x0 = some r → Rl E (sh_ b) (nn b) s.heap M H locs → lv_has ls 1 [(0, .int x0)] → W p l e (rm 1 0 0) s m args below meth c H locs 0 0 (MQ below (qq E (some (.int r)) (sh_ b) (nn b) M) args s 0 0 (fr E)) (F0 m 0 ls []) := by
  obtain ⟨hx, hb, hr, hml, hown, hts, hK, hN, hO, hlk, hbs⟩ := id X
  intro x0 H locs ls hf hR hl
  unfold fX11_isLetter at hf
  refine lv_iload_n hx hb dX11_isLetter_0 rfl (lv_at hl 0 rfl) ?_
  refine lv_bipush (v := 97) hx hb dX11_isLetter_1 (by decide) ?_
  refine lv_icmp_lt (tgt := 16) hx hb dX11_isLetter_3 (by decide) (fun q3 => ?_) (fun q3 => ?_)
  · have hf := (br_if hf).1 q3
    exact wX11_isLetter_16 X hf hR (lv_sub hl [] rfl)
  · have hf := (br_if hf).2 q3
    refine lv_iload_n hx hb dX11_isLetter_6 rfl (lv_at hl 0 rfl) ?_
    refine lv_bipush (v := 122) hx hb dX11_isLetter_7 (by decide) ?_
    refine lv_icmp_gt (tgt := 16) hx hb dX11_isLetter_9 (by decide) (fun q9 => ?_) (fun q9 => ?_)
    · have hf := (br_if hf).1 q9
      exact wX11_isLetter_16 X hf hR (lv_sub hl [] rfl)
    · have hf := (br_if hf).2 q9
      refine lv_iconst (v := 1) hx hb dX11_isLetter_12 (by decide) ?_
      refine lv_goto (tgt := 17) hx hb dX11_isLetter_13 (by decide) ?_
      exact wX11_isLetter_17 X hf hR (lv_sub hl [] rfl)
theorem ctX11_isLetter {l : Launch} {E : Ge} {b : Bool} {M : Mem} {x0 : Int32} {r : Int32} (h : fX11_isLetter M x0 = some r) : CT l E yX11_isLetter cX11_isLetter 1 (some .boolean) 1 0 0 [.int x0] (some (.int r)) (sh_ b) (nn b) M (sh_ b) (nn b) M := by
  refine met_of (by decide) (Nat.le_of_ble_eq_true rfl) ?_
  intro p e s m args below meth c X _ hR ls hl
  exact wX11_isLetter_0 X h hR hl
def fX11_isDigit_17 (M : Mem) (s0 : Int32) : Option Int32 := some (s0 &&& 1)
def fX11_isDigit_16 (M : Mem) : Option Int32 := fX11_isDigit_17 M (0 : Int32)
def fX11_isDigit (M : Mem) (x0 : Int32) : Option Int32 := (if x0 < (48 : Int32) then fX11_isDigit_16 M else (if (57 : Int32) < x0 then fX11_isDigit_16 M else fX11_isDigit_17 M (1 : Int32)))
set_option maxHeartbeats 4000000 in
set_option maxRecDepth 100000 in
theorem wX11_isDigit_17 {r : Int32} {M : Mem} (X : CX E p s m args c meth cX11_isDigit 1 (some .boolean) RX11) : ∀ {s0 : Int32} {H : Heap} {locs : List Loc} {ls : Array Slot}, fX11_isDigit_17 M s0 = some r → Rl E (sh_ b) (nn b) s.heap M H locs → lv_has ls 1 [] → W p l e (rm 1 0 0) s m args below meth c H locs 0 0 (MQ below (qq E (some (.int r)) (sh_ b) (nn b) M) args s 0 0 (fr E)) (F0 m 17 ls [.int s0]) := by
  obtain ⟨hx, hb, hr, hml, hown, hts, hK, hN, hO, hlk, hbs⟩ := id X
  intro s0 H locs ls hf hR hl
  unfold fX11_isDigit_17 at hf
  cases hf
  exact x_zret hx hb hr hlk hR rfl dX11_isDigit_17
set_option maxHeartbeats 4000000 in
set_option maxRecDepth 100000 in
theorem wX11_isDigit_16 {r : Int32} {M : Mem} (X : CX E p s m args c meth cX11_isDigit 1 (some .boolean) RX11) : ∀ {H : Heap} {locs : List Loc} {ls : Array Slot}, fX11_isDigit_16 M = some r → Rl E (sh_ b) (nn b) s.heap M H locs → lv_has ls 1 [] → W p l e (rm 1 0 0) s m args below meth c H locs 0 0 (MQ below (qq E (some (.int r)) (sh_ b) (nn b) M) args s 0 0 (fr E)) (F0 m 16 ls []) := by
  obtain ⟨hx, hb, hr, hml, hown, hts, hK, hN, hO, hlk, hbs⟩ := id X
  intro H locs ls hf hR hl
  unfold fX11_isDigit_16 at hf
  refine lv_iconst (v := 0) hx hb dX11_isDigit_16 (by decide) ?_
  exact wX11_isDigit_17 X hf hR hl
set_option maxHeartbeats 4000000 in
set_option maxRecDepth 100000 in
theorem wX11_isDigit_0 {r : Int32} {M : Mem} (X : CX E p s m args c meth cX11_isDigit 1 (some .boolean) RX11) : ∀ {x0 : Int32} {H : Heap} {locs : List Loc} {ls : Array Slot}, fX11_isDigit M x0 = some r → Rl E (sh_ b) (nn b) s.heap M H locs → lv_has ls 1 [(0, .int x0)] → W p l e (rm 1 0 0) s m args below meth c H locs 0 0 (MQ below (qq E (some (.int r)) (sh_ b) (nn b) M) args s 0 0 (fr E)) (F0 m 0 ls []) := by
  obtain ⟨hx, hb, hr, hml, hown, hts, hK, hN, hO, hlk, hbs⟩ := id X
  intro x0 H locs ls hf hR hl
  unfold fX11_isDigit at hf
  refine lv_iload_n hx hb dX11_isDigit_0 rfl (lv_at hl 0 rfl) ?_
  refine lv_bipush (v := 48) hx hb dX11_isDigit_1 (by decide) ?_
  refine lv_icmp_lt (tgt := 16) hx hb dX11_isDigit_3 (by decide) (fun q3 => ?_) (fun q3 => ?_)
  · have hf := (br_if hf).1 q3
    exact wX11_isDigit_16 X hf hR (lv_sub hl [] rfl)
  · have hf := (br_if hf).2 q3
    refine lv_iload_n hx hb dX11_isDigit_6 rfl (lv_at hl 0 rfl) ?_
    refine lv_bipush (v := 57) hx hb dX11_isDigit_7 (by decide) ?_
    refine lv_icmp_gt (tgt := 16) hx hb dX11_isDigit_9 (by decide) (fun q9 => ?_) (fun q9 => ?_)
    · have hf := (br_if hf).1 q9
      exact wX11_isDigit_16 X hf hR (lv_sub hl [] rfl)
    · have hf := (br_if hf).2 q9
      refine lv_iconst (v := 1) hx hb dX11_isDigit_12 (by decide) ?_
      refine lv_goto (tgt := 17) hx hb dX11_isDigit_13 (by decide) ?_
      exact wX11_isDigit_17 X hf hR (lv_sub hl [] rfl)
theorem ctX11_isDigit {l : Launch} {E : Ge} {b : Bool} {M : Mem} {x0 : Int32} {r : Int32} (h : fX11_isDigit M x0 = some r) : CT l E yX11_isDigit cX11_isDigit 1 (some .boolean) 1 0 0 [.int x0] (some (.int r)) (sh_ b) (nn b) M (sh_ b) (nn b) M := by
  refine met_of (by decide) (Nat.le_of_ble_eq_true rfl) ?_
  intro p e s m args below meth c X _ hR ls hl
  exact wX11_isDigit_0 X h hR hl
def fX11_skips_39 (k0 : Mem → Option Mem) (k52 : Mem → Option Mem) (M : Mem) : Option Mem := nx (sI M 47 2 ((M.1 47 2) + (1 : Int32))) (fun M46 => k0 M46)
def fX11_skips_0 (k52 : Mem → Option Mem) : Nat → Mem → Option Mem
  | 0, _ => none
  | n + 1, M => (if (M.1 47 1) ≤ (M.1 47 2) then k52 M else (if inb (M.1 47 2) 600 = true then (if (M.1 48 (ix (M.1 47 2))) = (32 : Int32) then fX11_skips_39 (fX11_skips_0 k52 n) k52 M else (if inb (M.1 47 2) 600 = true then (if (M.1 48 (ix (M.1 47 2))) = (10 : Int32) then fX11_skips_39 (fX11_skips_0 k52 n) k52 M else k52 M) else none)) else none))
def fX11_skips_87 (k190 : Mem → Option Mem) : Nat → Mem → Option Mem
  | 0, _ => none
  | n + 1, M => (if (M.1 47 1) ≤ (M.1 47 3) then k190 M else (if inb (M.1 47 3) 600 = true then (fX11_isLetter M (M.1 48 (ix (M.1 47 3)))).bind (fun q107 => (if q107 = 0 then k190 M else nx (sI M 47 3 ((M.1 47 3) + (1 : Int32))) (fun M120 => fX11_skips_87 k190 n M120))) else none))
def fX11_skips_141 (k190 : Mem → Option Mem) : Nat → Mem → Option Mem
  | 0, _ => none
  | n + 1, M => (if (M.1 47 1) ≤ (M.1 47 3) then k190 M else (if inb (M.1 47 3) 600 = true then (fX11_isDigit M (M.1 48 (ix (M.1 47 3)))).bind (fun q161 => (if q161 = 0 then k190 M else nx (sI M 47 3 ((M.1 47 3) + (1 : Int32))) (fun M174 => fX11_skips_141 k190 n M174))) else none))
def fX11_skips_190 (M : Mem) : Option Mem := some M
def fX11_skips_52 (M : Mem) : Option Mem := nx (sI M 47 3 (M.1 47 2)) (fun M57 => (if (M57.1 47 2) = (M57.1 47 1) then some M57 else (if inb (M57.1 47 2) 600 = true then (fX11_isLetter M57 (M57.1 48 (ix (M57.1 47 2)))).bind (fun q81 => (if q81 = 0 then (if inb (M57.1 47 2) 600 = true then (fX11_isDigit M57 (M57.1 48 (ix (M57.1 47 2)))).bind (fun q135 => (if q135 = 0 then nx (sI M57 47 3 ((M57.1 47 2) + (1 : Int32))) (fun M187 => fX11_skips_190 M187) else fX11_skips_141 fX11_skips_190 FU M57)) else none) else fX11_skips_87 fX11_skips_190 FU M57)) else none)))
set_option maxHeartbeats 4000000 in
set_option maxRecDepth 100000 in
theorem wX11_skips_39 {M1 : Mem} {k0 : Mem → Option Mem} {k52 : Mem → Option Mem} (X : CX E p s m args c meth cX11_skips 1 none RX11) (hk0 : ∀ {M : Mem} {H : Heap} {locs : List Loc} {ls : Array Slot}, k0 M = some M1 → Rl E (sh_ b) (nn b) s.heap M H locs → lv_has ls 1 [(0, .ref (eB E + 47))] → W p l e (rm 2 0 0) s m args below meth c H locs 0 0 (MQ below (qq E none (sh_ b) (nn b) M1) args s 0 0 (fr E)) (F0 m 0 ls [])) (hk52 : ∀ {M : Mem} {H : Heap} {locs : List Loc} {ls : Array Slot}, k52 M = some M1 → Rl E (sh_ b) (nn b) s.heap M H locs → lv_has ls 1 [(0, .ref (eB E + 47))] → W p l e (rm 2 0 0) s m args below meth c H locs 0 0 (MQ below (qq E none (sh_ b) (nn b) M1) args s 0 0 (fr E)) (F0 m 52 ls [])) : ∀ {M : Mem} {H : Heap} {locs : List Loc} {ls : Array Slot}, fX11_skips_39 k0 k52 M = some M1 → Rl E (sh_ b) (nn b) s.heap M H locs → lv_has ls 1 [(0, .ref (eB E + 47))] → W p l e (rm 2 0 0) s m args below meth c H locs 0 0 (MQ below (qq E none (sh_ b) (nn b) M1) args s 0 0 (fr E)) (F0 m 39 ls []) := by
  obtain ⟨hx, hb, hr, hml, hown, hts, hK, hN, hO, hlk, hbs⟩ := id X
  intro M H locs ls hf hR hl
  unfold fX11_skips_39 at hf
  refine lv_aload_n hx hb dX11_skips_39 rfl (lv_at hl 0 rfl) ?_
  refine lv_dup hx hb dX11_skips_40 rfl ?_
  refine x_get hx hb hown hts hK hR kX11 (z_47 b) (j := 2) (by decide) fl_X11_126 (v := .int (M.1 47 2)) rfl dX11_skips_41 ?_
  refine lv_iconst (v := 1) hx hb dX11_skips_44 (by decide) ?_
  refine lv_iadd hx hb dX11_skips_45 ?_
  refine x_puti hx hb hown hts hK hR kX11 (z_47 b) (j := 2) (by decide) fl_X11_126 rfl rfl rfl rfl dX11_skips_46 (fun H locs hR => ?_)
  obtain ⟨M46, e46⟩ : ∃ y : Mem, y = (sI M 47 2 ((M.1 47 2) + (1 : Int32))) := ⟨_, rfl⟩
  have hf := nx_at e46 hf
  have hR : Rl E (sh_ b) (nn b) s.heap M46 H locs := by rw [e46]; exact hR
  refine lv_goto (tgt := 0) hx hb dX11_skips_49 (by decide) ?_
  exact hk0 hf hR hl
set_option maxHeartbeats 4000000 in
set_option maxRecDepth 100000 in
theorem wX11_skips_0 {M1 : Mem} {k52 : Mem → Option Mem} (X : CX E p s m args c meth cX11_skips 1 none RX11) (hk52 : ∀ {M : Mem} {H : Heap} {locs : List Loc} {ls : Array Slot}, k52 M = some M1 → Rl E (sh_ b) (nn b) s.heap M H locs → lv_has ls 1 [(0, .ref (eB E + 47))] → W p l e (rm 2 0 0) s m args below meth c H locs 0 0 (MQ below (qq E none (sh_ b) (nn b) M1) args s 0 0 (fr E)) (F0 m 52 ls [])) : ∀ (n : Nat) {M : Mem} {H : Heap} {locs : List Loc} {ls : Array Slot}, fX11_skips_0 k52 n M = some M1 → Rl E (sh_ b) (nn b) s.heap M H locs → lv_has ls 1 [(0, .ref (eB E + 47))] → W p l e (rm 2 0 0) s m args below meth c H locs 0 0 (MQ below (qq E none (sh_ b) (nn b) M1) args s 0 0 (fr E)) (F0 m 0 ls []) := by
  obtain ⟨hx, hb, hr, hml, hown, hts, hK, hN, hO, hlk, hbs⟩ := id X
  intro n
  induction n with
  | zero =>
    intro M H locs ls hf hR hl
    exact absurd (show none = some _ from hf) (fun h => by cases h)
  | succ n ih =>
    intro M H locs ls hf hR hl
    rw [fX11_skips_0] at hf
    refine lv_aload_n hx hb dX11_skips_0 rfl (lv_at hl 0 rfl) ?_
    refine x_get hx hb hown hts hK hR kX11 (z_47 b) (j := 2) (by decide) fl_X11_126 (v := .int (M.1 47 2)) rfl dX11_skips_1 ?_
    refine lv_aload_n hx hb dX11_skips_4 rfl (lv_at hl 0 rfl) ?_
    refine x_get hx hb hown hts hK hR kX11 (z_47 b) (j := 1) (by decide) fl_X11_114 (v := .int (M.1 47 1)) rfl dX11_skips_5 ?_
    refine lv_icmp_ge (tgt := 52) hx hb dX11_skips_8 (by decide) (fun q8 => ?_) (fun q8 => ?_)
    · have hf := (br_if hf).1 q8
      exact hk52 hf hR hl
    · have hf := (br_if hf).2 q8
      refine lv_aload_n hx hb dX11_skips_11 rfl (lv_at hl 0 rfl) ?_
      refine x_get hx hb hown hts hK hR kX11 (z_47 b) (j := 0) (by decide) fl_X11_9 (v := .ref (eB E + 48)) rfl dX11_skips_12 ?_
      refine lv_aload_n hx hb dX11_skips_15 rfl (lv_at hl 0 rfl) ?_
      refine x_get hx hb hown hts hK hR kX11 (z_47 b) (j := 2) (by decide) fl_X11_126 (v := .int (M.1 47 2)) rfl dX11_skips_16 ?_
      obtain ⟨g19, hf⟩ := br_g hf
      refine x_bald hx hb hK hR (z_48 b) g19 dX11_skips_19 ?_
      refine lv_bipush (v := 32) hx hb dX11_skips_20 (by decide) ?_
      refine lv_icmp_eq (tgt := 39) hx hb dX11_skips_22 (by decide) (fun q22 => ?_) (fun q22 => ?_)
      · have hf := (br_if hf).1 q22
        exact wX11_skips_39 X (fun hf hR hl => ih hf hR hl) (fun hf hR hl => hk52 hf hR hl) hf hR hl
      · have hf := (br_if hf).2 q22
        refine lv_aload_n hx hb dX11_skips_25 rfl (lv_at hl 0 rfl) ?_
        refine x_get hx hb hown hts hK hR kX11 (z_47 b) (j := 0) (by decide) fl_X11_9 (v := .ref (eB E + 48)) rfl dX11_skips_26 ?_
        refine lv_aload_n hx hb dX11_skips_29 rfl (lv_at hl 0 rfl) ?_
        refine x_get hx hb hown hts hK hR kX11 (z_47 b) (j := 2) (by decide) fl_X11_126 (v := .int (M.1 47 2)) rfl dX11_skips_30 ?_
        obtain ⟨g33, hf⟩ := br_g hf
        refine x_bald hx hb hK hR (z_48 b) g33 dX11_skips_33 ?_
        refine lv_bipush (v := 10) hx hb dX11_skips_34 (by decide) ?_
        refine lv_icmp_ne (tgt := 52) hx hb dX11_skips_36 (by decide) (fun q36 => ?_) (fun q36 => ?_)
        · have hf := (br_if hf).2 q36
          exact hk52 hf hR hl
        · have hf := (br_if hf).1 q36
          exact wX11_skips_39 X (fun hf hR hl => ih hf hR hl) (fun hf hR hl => hk52 hf hR hl) hf hR hl
set_option maxHeartbeats 4000000 in
set_option maxRecDepth 100000 in
theorem wX11_skips_87 {M1 : Mem} {k190 : Mem → Option Mem} (X : CX E p s m args c meth cX11_skips 1 none RX11) (hk190 : ∀ {M : Mem} {H : Heap} {locs : List Loc} {ls : Array Slot}, k190 M = some M1 → Rl E (sh_ b) (nn b) s.heap M H locs → lv_has ls 1 [] → W p l e (rm 2 0 0) s m args below meth c H locs 0 0 (MQ below (qq E none (sh_ b) (nn b) M1) args s 0 0 (fr E)) (F0 m 190 ls [])) : ∀ (n : Nat) {M : Mem} {H : Heap} {locs : List Loc} {ls : Array Slot}, fX11_skips_87 k190 n M = some M1 → Rl E (sh_ b) (nn b) s.heap M H locs → lv_has ls 1 [(0, .ref (eB E + 47))] → W p l e (rm 2 0 0) s m args below meth c H locs 0 0 (MQ below (qq E none (sh_ b) (nn b) M1) args s 0 0 (fr E)) (F0 m 87 ls []) := by
  obtain ⟨hx, hb, hr, hml, hown, hts, hK, hN, hO, hlk, hbs⟩ := id X
  intro n
  induction n with
  | zero =>
    intro M H locs ls hf hR hl
    exact absurd (show none = some _ from hf) (fun h => by cases h)
  | succ n ih =>
    intro M H locs ls hf hR hl
    rw [fX11_skips_87] at hf
    refine lv_aload_n hx hb dX11_skips_87 rfl (lv_at hl 0 rfl) ?_
    refine x_get hx hb hown hts hK hR kX11 (z_47 b) (j := 3) (by decide) fl_X11_129 (v := .int (M.1 47 3)) rfl dX11_skips_88 ?_
    refine lv_aload_n hx hb dX11_skips_91 rfl (lv_at hl 0 rfl) ?_
    refine x_get hx hb hown hts hK hR kX11 (z_47 b) (j := 1) (by decide) fl_X11_114 (v := .int (M.1 47 1)) rfl dX11_skips_92 ?_
    refine lv_icmp_ge (tgt := 190) hx hb dX11_skips_95 (by decide) (fun q95 => ?_) (fun q95 => ?_)
    · have hf := (br_if hf).1 q95
      exact hk190 hf hR (lv_sub hl [] rfl)
    · have hf := (br_if hf).2 q95
      refine lv_aload_n hx hb dX11_skips_98 rfl (lv_at hl 0 rfl) ?_
      refine x_get hx hb hown hts hK hR kX11 (z_47 b) (j := 0) (by decide) fl_X11_9 (v := .ref (eB E + 48)) rfl dX11_skips_99 ?_
      refine lv_aload_n hx hb dX11_skips_102 rfl (lv_at hl 0 rfl) ?_
      refine x_get hx hb hown hts hK hR kX11 (z_47 b) (j := 3) (by decide) fl_X11_129 (v := .int (M.1 47 3)) rfl dX11_skips_103 ?_
      obtain ⟨g106, hf⟩ := br_g hf
      refine x_bald hx hb hK hR (z_48 b) g106 dX11_skips_106 ?_
      obtain ⟨q107, c107, hf⟩ := br_b hf
      refine x_callS (As := [.int (M.1 48 (ix (M.1 47 3)))]) (rest := []) (st1 := [.int q107]) X hR (ctX11_isLetter c107) ml_X11_132 st_X11_isLetter in_X11 co_X11_isLetter yo_X11_isLetter (rm_ok (by decide) (by decide)) rfl hl.1 rfl rfl (Nat.le_of_ble_eq_true rfl) dX11_skips_107 ⟨Nat.zero_le _, Nat.zero_le _⟩ (fun H locs hR => ?_)
      refine lv_if_eq (tgt := 190) hx hb dX11_skips_110 (by decide) (fun q110 => ?_) (fun q110 => ?_)
      · have hf := (br_if hf).1 q110
        exact hk190 hf hR (lv_sub hl [] rfl)
      · have hf := (br_if hf).2 q110
        refine lv_aload_n hx hb dX11_skips_113 rfl (lv_at hl 0 rfl) ?_
        refine lv_dup hx hb dX11_skips_114 rfl ?_
        refine x_get hx hb hown hts hK hR kX11 (z_47 b) (j := 3) (by decide) fl_X11_129 (v := .int (M.1 47 3)) rfl dX11_skips_115 ?_
        refine lv_iconst (v := 1) hx hb dX11_skips_118 (by decide) ?_
        refine lv_iadd hx hb dX11_skips_119 ?_
        refine x_puti hx hb hown hts hK hR kX11 (z_47 b) (j := 3) (by decide) fl_X11_129 rfl rfl rfl rfl dX11_skips_120 (fun H locs hR => ?_)
        obtain ⟨M120, e120⟩ : ∃ y : Mem, y = (sI M 47 3 ((M.1 47 3) + (1 : Int32))) := ⟨_, rfl⟩
        have hf := nx_at e120 hf
        have hR : Rl E (sh_ b) (nn b) s.heap M120 H locs := by rw [e120]; exact hR
        refine lv_goto (tgt := 87) hx hb dX11_skips_123 (by decide) ?_
        exact ih hf hR hl
set_option maxHeartbeats 4000000 in
set_option maxRecDepth 100000 in
theorem wX11_skips_141 {M1 : Mem} {k190 : Mem → Option Mem} (X : CX E p s m args c meth cX11_skips 1 none RX11) (hk190 : ∀ {M : Mem} {H : Heap} {locs : List Loc} {ls : Array Slot}, k190 M = some M1 → Rl E (sh_ b) (nn b) s.heap M H locs → lv_has ls 1 [] → W p l e (rm 2 0 0) s m args below meth c H locs 0 0 (MQ below (qq E none (sh_ b) (nn b) M1) args s 0 0 (fr E)) (F0 m 190 ls [])) : ∀ (n : Nat) {M : Mem} {H : Heap} {locs : List Loc} {ls : Array Slot}, fX11_skips_141 k190 n M = some M1 → Rl E (sh_ b) (nn b) s.heap M H locs → lv_has ls 1 [(0, .ref (eB E + 47))] → W p l e (rm 2 0 0) s m args below meth c H locs 0 0 (MQ below (qq E none (sh_ b) (nn b) M1) args s 0 0 (fr E)) (F0 m 141 ls []) := by
  obtain ⟨hx, hb, hr, hml, hown, hts, hK, hN, hO, hlk, hbs⟩ := id X
  intro n
  induction n with
  | zero =>
    intro M H locs ls hf hR hl
    exact absurd (show none = some _ from hf) (fun h => by cases h)
  | succ n ih =>
    intro M H locs ls hf hR hl
    rw [fX11_skips_141] at hf
    refine lv_aload_n hx hb dX11_skips_141 rfl (lv_at hl 0 rfl) ?_
    refine x_get hx hb hown hts hK hR kX11 (z_47 b) (j := 3) (by decide) fl_X11_129 (v := .int (M.1 47 3)) rfl dX11_skips_142 ?_
    refine lv_aload_n hx hb dX11_skips_145 rfl (lv_at hl 0 rfl) ?_
    refine x_get hx hb hown hts hK hR kX11 (z_47 b) (j := 1) (by decide) fl_X11_114 (v := .int (M.1 47 1)) rfl dX11_skips_146 ?_
    refine lv_icmp_ge (tgt := 190) hx hb dX11_skips_149 (by decide) (fun q149 => ?_) (fun q149 => ?_)
    · have hf := (br_if hf).1 q149
      exact hk190 hf hR (lv_sub hl [] rfl)
    · have hf := (br_if hf).2 q149
      refine lv_aload_n hx hb dX11_skips_152 rfl (lv_at hl 0 rfl) ?_
      refine x_get hx hb hown hts hK hR kX11 (z_47 b) (j := 0) (by decide) fl_X11_9 (v := .ref (eB E + 48)) rfl dX11_skips_153 ?_
      refine lv_aload_n hx hb dX11_skips_156 rfl (lv_at hl 0 rfl) ?_
      refine x_get hx hb hown hts hK hR kX11 (z_47 b) (j := 3) (by decide) fl_X11_129 (v := .int (M.1 47 3)) rfl dX11_skips_157 ?_
      obtain ⟨g160, hf⟩ := br_g hf
      refine x_bald hx hb hK hR (z_48 b) g160 dX11_skips_160 ?_
      obtain ⟨q161, c161, hf⟩ := br_b hf
      refine x_callS (As := [.int (M.1 48 (ix (M.1 47 3)))]) (rest := []) (st1 := [.int q161]) X hR (ctX11_isDigit c161) ml_X11_136 st_X11_isDigit in_X11 co_X11_isDigit yo_X11_isDigit (rm_ok (by decide) (by decide)) rfl hl.1 rfl rfl (Nat.le_of_ble_eq_true rfl) dX11_skips_161 ⟨Nat.zero_le _, Nat.zero_le _⟩ (fun H locs hR => ?_)
      refine lv_if_eq (tgt := 190) hx hb dX11_skips_164 (by decide) (fun q164 => ?_) (fun q164 => ?_)
      · have hf := (br_if hf).1 q164
        exact hk190 hf hR (lv_sub hl [] rfl)
      · have hf := (br_if hf).2 q164
        refine lv_aload_n hx hb dX11_skips_167 rfl (lv_at hl 0 rfl) ?_
        refine lv_dup hx hb dX11_skips_168 rfl ?_
        refine x_get hx hb hown hts hK hR kX11 (z_47 b) (j := 3) (by decide) fl_X11_129 (v := .int (M.1 47 3)) rfl dX11_skips_169 ?_
        refine lv_iconst (v := 1) hx hb dX11_skips_172 (by decide) ?_
        refine lv_iadd hx hb dX11_skips_173 ?_
        refine x_puti hx hb hown hts hK hR kX11 (z_47 b) (j := 3) (by decide) fl_X11_129 rfl rfl rfl rfl dX11_skips_174 (fun H locs hR => ?_)
        obtain ⟨M174, e174⟩ : ∃ y : Mem, y = (sI M 47 3 ((M.1 47 3) + (1 : Int32))) := ⟨_, rfl⟩
        have hf := nx_at e174 hf
        have hR : Rl E (sh_ b) (nn b) s.heap M174 H locs := by rw [e174]; exact hR
        refine lv_goto (tgt := 141) hx hb dX11_skips_177 (by decide) ?_
        exact ih hf hR hl
set_option maxHeartbeats 4000000 in
set_option maxRecDepth 100000 in
theorem wX11_skips_190 {M1 : Mem} (X : CX E p s m args c meth cX11_skips 1 none RX11) : ∀ {M : Mem} {H : Heap} {locs : List Loc} {ls : Array Slot}, fX11_skips_190 M = some M1 → Rl E (sh_ b) (nn b) s.heap M H locs → lv_has ls 1 [] → W p l e (rm 2 0 0) s m args below meth c H locs 0 0 (MQ below (qq E none (sh_ b) (nn b) M1) args s 0 0 (fr E)) (F0 m 190 ls []) := by
  obtain ⟨hx, hb, hr, hml, hown, hts, hK, hN, hO, hlk, hbs⟩ := id X
  intro M H locs ls hf hR hl
  unfold fX11_skips_190 at hf
  cases hf
  exact x_vret hx hb hr hlk hR dX11_skips_190
set_option maxHeartbeats 4000000 in
set_option maxRecDepth 100000 in
theorem wX11_skips_52 {M1 : Mem} (X : CX E p s m args c meth cX11_skips 1 none RX11) : ∀ {M : Mem} {H : Heap} {locs : List Loc} {ls : Array Slot}, fX11_skips_52 M = some M1 → Rl E (sh_ b) (nn b) s.heap M H locs → lv_has ls 1 [(0, .ref (eB E + 47))] → W p l e (rm 2 0 0) s m args below meth c H locs 0 0 (MQ below (qq E none (sh_ b) (nn b) M1) args s 0 0 (fr E)) (F0 m 52 ls []) := by
  obtain ⟨hx, hb, hr, hml, hown, hts, hK, hN, hO, hlk, hbs⟩ := id X
  intro M H locs ls hf hR hl
  unfold fX11_skips_52 at hf
  refine lv_aload_n hx hb dX11_skips_52 rfl (lv_at hl 0 rfl) ?_
  refine lv_aload_n hx hb dX11_skips_53 rfl (lv_at hl 0 rfl) ?_
  refine x_get hx hb hown hts hK hR kX11 (z_47 b) (j := 2) (by decide) fl_X11_126 (v := .int (M.1 47 2)) rfl dX11_skips_54 ?_
  refine x_puti hx hb hown hts hK hR kX11 (z_47 b) (j := 3) (by decide) fl_X11_129 rfl rfl rfl rfl dX11_skips_57 (fun H locs hR => ?_)
  obtain ⟨M57, e57⟩ : ∃ y : Mem, y = (sI M 47 3 (M.1 47 2)) := ⟨_, rfl⟩
  have hf := nx_at e57 hf
  have hR : Rl E (sh_ b) (nn b) s.heap M57 H locs := by rw [e57]; exact hR
  refine lv_aload_n hx hb dX11_skips_60 rfl (lv_at hl 0 rfl) ?_
  refine x_get hx hb hown hts hK hR kX11 (z_47 b) (j := 2) (by decide) fl_X11_126 (v := .int (M57.1 47 2)) rfl dX11_skips_61 ?_
  refine lv_aload_n hx hb dX11_skips_64 rfl (lv_at hl 0 rfl) ?_
  refine x_get hx hb hown hts hK hR kX11 (z_47 b) (j := 1) (by decide) fl_X11_114 (v := .int (M57.1 47 1)) rfl dX11_skips_65 ?_
  refine lv_icmp_ne (tgt := 72) hx hb dX11_skips_68 (by decide) (fun q68 => ?_) (fun q68 => ?_)
  · have hf := (br_if hf).2 q68
    refine lv_aload_n hx hb dX11_skips_72 rfl (lv_at hl 0 rfl) ?_
    refine x_get hx hb hown hts hK hR kX11 (z_47 b) (j := 0) (by decide) fl_X11_9 (v := .ref (eB E + 48)) rfl dX11_skips_73 ?_
    refine lv_aload_n hx hb dX11_skips_76 rfl (lv_at hl 0 rfl) ?_
    refine x_get hx hb hown hts hK hR kX11 (z_47 b) (j := 2) (by decide) fl_X11_126 (v := .int (M57.1 47 2)) rfl dX11_skips_77 ?_
    obtain ⟨g80, hf⟩ := br_g hf
    refine x_bald hx hb hK hR (z_48 b) g80 dX11_skips_80 ?_
    obtain ⟨q81, c81, hf⟩ := br_b hf
    refine x_callS (As := [.int (M57.1 48 (ix (M57.1 47 2)))]) (rest := []) (st1 := [.int q81]) X hR (ctX11_isLetter c81) ml_X11_132 st_X11_isLetter in_X11 co_X11_isLetter yo_X11_isLetter (rm_ok (by decide) (by decide)) rfl hl.1 rfl rfl (Nat.le_of_ble_eq_true rfl) dX11_skips_81 ⟨Nat.zero_le _, Nat.zero_le _⟩ (fun H locs hR => ?_)
    refine lv_if_eq (tgt := 126) hx hb dX11_skips_84 (by decide) (fun q84 => ?_) (fun q84 => ?_)
    · have hf := (br_if hf).1 q84
      refine lv_aload_n hx hb dX11_skips_126 rfl (lv_at hl 0 rfl) ?_
      refine x_get hx hb hown hts hK hR kX11 (z_47 b) (j := 0) (by decide) fl_X11_9 (v := .ref (eB E + 48)) rfl dX11_skips_127 ?_
      refine lv_aload_n hx hb dX11_skips_130 rfl (lv_at hl 0 rfl) ?_
      refine x_get hx hb hown hts hK hR kX11 (z_47 b) (j := 2) (by decide) fl_X11_126 (v := .int (M57.1 47 2)) rfl dX11_skips_131 ?_
      obtain ⟨g134, hf⟩ := br_g hf
      refine x_bald hx hb hK hR (z_48 b) g134 dX11_skips_134 ?_
      obtain ⟨q135, c135, hf⟩ := br_b hf
      refine x_callS (As := [.int (M57.1 48 (ix (M57.1 47 2)))]) (rest := []) (st1 := [.int q135]) X hR (ctX11_isDigit c135) ml_X11_136 st_X11_isDigit in_X11 co_X11_isDigit yo_X11_isDigit (rm_ok (by decide) (by decide)) rfl hl.1 rfl rfl (Nat.le_of_ble_eq_true rfl) dX11_skips_135 ⟨Nat.zero_le _, Nat.zero_le _⟩ (fun H locs hR => ?_)
      refine lv_if_eq (tgt := 180) hx hb dX11_skips_138 (by decide) (fun q138 => ?_) (fun q138 => ?_)
      · have hf := (br_if hf).1 q138
        refine lv_aload_n hx hb dX11_skips_180 rfl (lv_at hl 0 rfl) ?_
        refine lv_aload_n hx hb dX11_skips_181 rfl (lv_at hl 0 rfl) ?_
        refine x_get hx hb hown hts hK hR kX11 (z_47 b) (j := 2) (by decide) fl_X11_126 (v := .int (M57.1 47 2)) rfl dX11_skips_182 ?_
        refine lv_iconst (v := 1) hx hb dX11_skips_185 (by decide) ?_
        refine lv_iadd hx hb dX11_skips_186 ?_
        refine x_puti hx hb hown hts hK hR kX11 (z_47 b) (j := 3) (by decide) fl_X11_129 rfl rfl rfl rfl dX11_skips_187 (fun H locs hR => ?_)
        obtain ⟨M187, e187⟩ : ∃ y : Mem, y = (sI M57 47 3 ((M57.1 47 2) + (1 : Int32))) := ⟨_, rfl⟩
        have hf := nx_at e187 hf
        have hR : Rl E (sh_ b) (nn b) s.heap M187 H locs := by rw [e187]; exact hR
        exact wX11_skips_190 X hf hR (lv_sub hl [] rfl)
      · have hf := (br_if hf).2 q138
        exact wX11_skips_141 X (fun hf hR hl => wX11_skips_190 X hf hR hl) FU hf hR hl
    · have hf := (br_if hf).2 q84
      exact wX11_skips_87 X (fun hf hR hl => wX11_skips_190 X hf hR hl) FU hf hR hl
  · have hf := (br_if hf).1 q68
    cases hf
    exact x_vret hx hb hr hlk hR dX11_skips_71
def fX11_skips (M : Mem) : Option Mem := fX11_skips_0 fX11_skips_52 FU M
theorem ctX11_skips {l : Launch} {E : Ge} {b : Bool} {M : Mem} {M1 : Mem} (h : fX11_skips M = some M1) : CT l E yX11_skips cX11_skips 1 none 2 0 0 [.ref (eB E + 47)] none (sh_ b) (nn b) M (sh_ b) (nn b) M1 := by
  refine met_of (by decide) (Nat.le_of_ble_eq_true rfl) ?_
  intro p e s m args below meth c X _ hR ls hl
  exact wX11_skips_0 X (fun hf hR hl => wX11_skips_52 X hf hR hl) FU (show fX11_skips_0 fX11_skips_52 FU M = some _ from h) hR hl
def fX11_isWord_27 (M : Mem) (w : Nat) : Option Int32 := some (0 : Int32)
def fX11_isWord_31 (M : Mem) (w : Nat) (k58 : Option Int32) (k66 : Option Int32) : Nat → Int32 → Option Int32
  | 0, _ => none
  | n + 1, x2 => (fJ0_length_8abf5 M w).bind (fun q33 => (if q33 ≤ x2 then k66 else (if inb ((M.1 47 2) + x2) 600 = true then (fJ0_charAt_5068e M w x2).bind (fun q52 => (if (M.1 48 (ix ((M.1 47 2) + x2))) = q52 then nx (x2 + (1 : Int32)) (fun v60 => fX11_isWord_31 M w k58 k66 n v60) else k58)) else none)))
def fX11_isWord_58 (M : Mem) (w : Nat) : Option Int32 := some (0 : Int32)
def fX11_isWord_66 (M : Mem) (w : Nat) : Option Int32 := some (1 : Int32)
def fX11_isWord (M : Mem) (w : Nat) : Option Int32 := (if (M.1 47 2) = (M.1 47 1) then fX11_isWord_27 M w else (fJ0_length_8abf5 M w).bind (fun q21 => (if ((M.1 47 3) - (M.1 47 2)) = q21 then fX11_isWord_31 M w (fX11_isWord_58 M w) (fX11_isWord_66 M w) FU (0 : Int32) else fX11_isWord_27 M w)))
set_option maxHeartbeats 4000000 in
set_option maxRecDepth 100000 in
theorem wX11_isWord_27 {r : Int32} {M : Mem} {w : Nat} (hw : w < 26) (X : CX E p s m args c meth cX11_isWord 3 (some .boolean) RX11) : ∀ {H : Heap} {locs : List Loc} {ls : Array Slot}, fX11_isWord_27 M w = some r → Rl E (sh_ b) (nn b) s.heap M H locs → lv_has ls 3 [] → W p l e (rm 7 0 0) s m args below meth c H locs 0 0 (MQ below (qq E (some (.int r)) (sh_ b) (nn b) M) args s 0 0 (fr E)) (F0 m 27 ls []) := by
  obtain ⟨hx, hb, hr, hml, hown, hts, hK, hN, hO, hlk, hbs⟩ := id X
  intro H locs ls hf hR hl
  unfold fX11_isWord_27 at hf
  refine lv_iconst (v := 0) hx hb dX11_isWord_27 (by decide) ?_
  cases hf
  exact x_zret hx hb hr hlk hR (by decide) dX11_isWord_28
set_option maxHeartbeats 4000000 in
set_option maxRecDepth 100000 in
theorem wX11_isWord_31 {r : Int32} {M : Mem} {w : Nat} (hw : w < 26) {k58 : Option Int32} {k66 : Option Int32} (X : CX E p s m args c meth cX11_isWord 3 (some .boolean) RX11) (hk58 : ∀ {H : Heap} {locs : List Loc} {ls : Array Slot}, k58 = some r → Rl E (sh_ b) (nn b) s.heap M H locs → lv_has ls 3 [] → W p l e (rm 7 0 0) s m args below meth c H locs 0 0 (MQ below (qq E (some (.int r)) (sh_ b) (nn b) M) args s 0 0 (fr E)) (F0 m 58 ls [])) (hk66 : ∀ {H : Heap} {locs : List Loc} {ls : Array Slot}, k66 = some r → Rl E (sh_ b) (nn b) s.heap M H locs → lv_has ls 3 [] → W p l e (rm 7 0 0) s m args below meth c H locs 0 0 (MQ below (qq E (some (.int r)) (sh_ b) (nn b) M) args s 0 0 (fr E)) (F0 m 66 ls [])) : ∀ (n : Nat) {x2 : Int32} {H : Heap} {locs : List Loc} {ls : Array Slot}, fX11_isWord_31 M w k58 k66 n x2 = some r → Rl E (sh_ b) (nn b) s.heap M H locs → lv_has ls 3 [(0, .ref (eB E + 47)), (1, .ref (E.2.2.1 w)), (2, .int x2)] → W p l e (rm 7 0 0) s m args below meth c H locs 0 0 (MQ below (qq E (some (.int r)) (sh_ b) (nn b) M) args s 0 0 (fr E)) (F0 m 31 ls []) := by
  obtain ⟨hx, hb, hr, hml, hown, hts, hK, hN, hO, hlk, hbs⟩ := id X
  intro n
  induction n with
  | zero =>
    intro x2 H locs ls hf hR hl
    exact absurd (show none = some _ from hf) (fun h => by cases h)
  | succ n ih =>
    intro x2 H locs ls hf hR hl
    rw [fX11_isWord_31] at hf
    refine lv_iload_n hx hb dX11_isWord_31 rfl (lv_at hl 2 rfl) ?_
    refine lv_aload_n hx hb dX11_isWord_32 rfl (lv_at hl 1 rfl) ?_
    obtain ⟨q33, c33, hf⟩ := br_b hf
    refine x_callT (As := []) (rest := [.int x2]) (st1 := [.int q33, .int x2]) X hR (ctJ0_length_8abf5 hw c33) ml_X11_139 im_J0_length_8abf5 se_J0_length_8abf5 in_J0 co_J0_length_8abf5 yo_J0_length_8abf5 rfl hw (rm_ok (by decide) (by decide)) rfl hl.1 rfl rfl (Nat.le_of_ble_eq_true rfl) dX11_isWord_33 ⟨Nat.zero_le _, Nat.zero_le _⟩ (fun H locs hR => ?_)
    refine lv_icmp_ge (tgt := 66) hx hb dX11_isWord_36 (by decide) (fun q36 => ?_) (fun q36 => ?_)
    · have hf := (br_if hf).1 q36
      exact hk66 hf hR (lv_sub hl [] rfl)
    · have hf := (br_if hf).2 q36
      refine lv_aload_n hx hb dX11_isWord_39 rfl (lv_at hl 0 rfl) ?_
      refine x_get hx hb hown hts hK hR kX11 (z_47 b) (j := 0) (by decide) fl_X11_9 (v := .ref (eB E + 48)) rfl dX11_isWord_40 ?_
      refine lv_aload_n hx hb dX11_isWord_43 rfl (lv_at hl 0 rfl) ?_
      refine x_get hx hb hown hts hK hR kX11 (z_47 b) (j := 2) (by decide) fl_X11_126 (v := .int (M.1 47 2)) rfl dX11_isWord_44 ?_
      refine lv_iload_n hx hb dX11_isWord_47 rfl (lv_at hl 2 rfl) ?_
      refine lv_iadd hx hb dX11_isWord_48 ?_
      obtain ⟨g49, hf⟩ := br_g hf
      refine x_bald hx hb hK hR (z_48 b) g49 dX11_isWord_49 ?_
      refine lv_aload_n hx hb dX11_isWord_50 rfl (lv_at hl 1 rfl) ?_
      refine lv_iload_n hx hb dX11_isWord_51 rfl (lv_at hl 2 rfl) ?_
      obtain ⟨q52, c52, hf⟩ := br_b hf
      refine x_callT (As := [.int x2]) (rest := [.int (M.1 48 (ix ((M.1 47 2) + x2)))]) (st1 := [.int q52, .int (M.1 48 (ix ((M.1 47 2) + x2)))]) X hR (ctJ0_charAt_5068e hw c52) ml_X11_143 im_J0_charAt_5068e se_J0_charAt_5068e in_J0 co_J0_charAt_5068e yo_J0_charAt_5068e rfl hw (rm_ok (by decide) (by decide)) rfl hl.1 rfl rfl (Nat.le_of_ble_eq_true rfl) dX11_isWord_52 ⟨Nat.zero_le _, Nat.zero_le _⟩ (fun H locs hR => ?_)
      refine lv_icmp_eq (tgt := 60) hx hb dX11_isWord_55 (by decide) (fun q55 => ?_) (fun q55 => ?_)
      · have hf := (br_if hf).1 q55
        obtain ⟨v60, e60⟩ : ∃ y : Int32, y = (x2 + (1 : Int32)) := ⟨_, rfl⟩
        have hf := nx_at e60 hf
        refine lv_iinc (v := v60) (lv' := [(2, .int v60), (0, .ref (eB E + 47)), (1, .ref (E.2.2.1 w))]) hx hb dX11_isWord_60 hl (k := 2) rfl (by rw [e60]; rfl) (by decide) rfl (fun ls hl => ?_)
        refine lv_goto (tgt := 31) hx hb dX11_isWord_63 (by decide) ?_
        exact ih hf hR (lv_sub hl [1, 2, 0] rfl)
      · have hf := (br_if hf).2 q55
        exact hk58 hf hR (lv_sub hl [] rfl)
set_option maxHeartbeats 4000000 in
set_option maxRecDepth 100000 in
theorem wX11_isWord_58 {r : Int32} {M : Mem} {w : Nat} (hw : w < 26) (X : CX E p s m args c meth cX11_isWord 3 (some .boolean) RX11) : ∀ {H : Heap} {locs : List Loc} {ls : Array Slot}, fX11_isWord_58 M w = some r → Rl E (sh_ b) (nn b) s.heap M H locs → lv_has ls 3 [] → W p l e (rm 7 0 0) s m args below meth c H locs 0 0 (MQ below (qq E (some (.int r)) (sh_ b) (nn b) M) args s 0 0 (fr E)) (F0 m 58 ls []) := by
  obtain ⟨hx, hb, hr, hml, hown, hts, hK, hN, hO, hlk, hbs⟩ := id X
  intro H locs ls hf hR hl
  unfold fX11_isWord_58 at hf
  refine lv_iconst (v := 0) hx hb dX11_isWord_58 (by decide) ?_
  cases hf
  exact x_zret hx hb hr hlk hR (by decide) dX11_isWord_59
set_option maxHeartbeats 4000000 in
set_option maxRecDepth 100000 in
theorem wX11_isWord_66 {r : Int32} {M : Mem} {w : Nat} (hw : w < 26) (X : CX E p s m args c meth cX11_isWord 3 (some .boolean) RX11) : ∀ {H : Heap} {locs : List Loc} {ls : Array Slot}, fX11_isWord_66 M w = some r → Rl E (sh_ b) (nn b) s.heap M H locs → lv_has ls 3 [] → W p l e (rm 7 0 0) s m args below meth c H locs 0 0 (MQ below (qq E (some (.int r)) (sh_ b) (nn b) M) args s 0 0 (fr E)) (F0 m 66 ls []) := by
  obtain ⟨hx, hb, hr, hml, hown, hts, hK, hN, hO, hlk, hbs⟩ := id X
  intro H locs ls hf hR hl
  unfold fX11_isWord_66 at hf
  refine lv_iconst (v := 1) hx hb dX11_isWord_66 (by decide) ?_
  cases hf
  exact x_zret hx hb hr hlk hR (by decide) dX11_isWord_67
set_option maxHeartbeats 4000000 in
set_option maxRecDepth 100000 in
theorem wX11_isWord_0 {r : Int32} {M : Mem} {w : Nat} (hw : w < 26) (X : CX E p s m args c meth cX11_isWord 3 (some .boolean) RX11) : ∀ {H : Heap} {locs : List Loc} {ls : Array Slot}, fX11_isWord M w = some r → Rl E (sh_ b) (nn b) s.heap M H locs → lv_has ls 3 [(0, .ref (eB E + 47)), (1, .ref (E.2.2.1 w))] → W p l e (rm 7 0 0) s m args below meth c H locs 0 0 (MQ below (qq E (some (.int r)) (sh_ b) (nn b) M) args s 0 0 (fr E)) (F0 m 0 ls []) := by
  obtain ⟨hx, hb, hr, hml, hown, hts, hK, hN, hO, hlk, hbs⟩ := id X
  intro H locs ls hf hR hl
  unfold fX11_isWord at hf
  refine lv_aload_n hx hb dX11_isWord_0 rfl (lv_at hl 0 rfl) ?_
  refine x_get hx hb hown hts hK hR kX11 (z_47 b) (j := 2) (by decide) fl_X11_126 (v := .int (M.1 47 2)) rfl dX11_isWord_1 ?_
  refine lv_aload_n hx hb dX11_isWord_4 rfl (lv_at hl 0 rfl) ?_
  refine x_get hx hb hown hts hK hR kX11 (z_47 b) (j := 1) (by decide) fl_X11_114 (v := .int (M.1 47 1)) rfl dX11_isWord_5 ?_
  refine lv_icmp_eq (tgt := 27) hx hb dX11_isWord_8 (by decide) (fun q8 => ?_) (fun q8 => ?_)
  · have hf := (br_if hf).1 q8
    exact wX11_isWord_27 hw X hf hR (lv_sub hl [] rfl)
  · have hf := (br_if hf).2 q8
    refine lv_aload_n hx hb dX11_isWord_11 rfl (lv_at hl 0 rfl) ?_
    refine x_get hx hb hown hts hK hR kX11 (z_47 b) (j := 3) (by decide) fl_X11_129 (v := .int (M.1 47 3)) rfl dX11_isWord_12 ?_
    refine lv_aload_n hx hb dX11_isWord_15 rfl (lv_at hl 0 rfl) ?_
    refine x_get hx hb hown hts hK hR kX11 (z_47 b) (j := 2) (by decide) fl_X11_126 (v := .int (M.1 47 2)) rfl dX11_isWord_16 ?_
    refine lv_isub hx hb dX11_isWord_19 ?_
    refine lv_aload_n hx hb dX11_isWord_20 rfl (lv_at hl 1 rfl) ?_
    obtain ⟨q21, c21, hf⟩ := br_b hf
    refine x_callT (As := []) (rest := [.int ((M.1 47 3) - (M.1 47 2))]) (st1 := [.int q21, .int ((M.1 47 3) - (M.1 47 2))]) X hR (ctJ0_length_8abf5 hw c21) ml_X11_139 im_J0_length_8abf5 se_J0_length_8abf5 in_J0 co_J0_length_8abf5 yo_J0_length_8abf5 rfl hw (rm_ok (by decide) (by decide)) rfl hl.1 rfl rfl (Nat.le_of_ble_eq_true rfl) dX11_isWord_21 ⟨Nat.zero_le _, Nat.zero_le _⟩ (fun H locs hR => ?_)
    refine lv_icmp_eq (tgt := 29) hx hb dX11_isWord_24 (by decide) (fun q24 => ?_) (fun q24 => ?_)
    · have hf := (br_if hf).1 q24
      refine lv_iconst (v := 0) hx hb dX11_isWord_29 (by decide) ?_
      refine lv_istore_n (lv' := [(2, .int (0 : Int32)), (0, .ref (eB E + 47)), (1, .ref (E.2.2.1 w))]) hx hb dX11_isWord_30 rfl hl (by decide) rfl (fun ls hl => ?_)
      exact wX11_isWord_31 hw X (fun hf hR hl => wX11_isWord_58 hw X hf hR hl) (fun hf hR hl => wX11_isWord_66 hw X hf hR hl) FU hf hR (lv_sub hl [1, 2, 0] rfl)
    · have hf := (br_if hf).2 q24
      exact wX11_isWord_27 hw X hf hR (lv_sub hl [] rfl)
theorem ctX11_isWord {l : Launch} {E : Ge} {b : Bool} {M : Mem} {w : Nat} (hw : w < 26) {r : Int32} (h : fX11_isWord M w = some r) : CT l E yX11_isWord cX11_isWord 3 (some .boolean) 7 0 0 [.ref (eB E + 47), .ref (E.2.2.1 w)] (some (.int r)) (sh_ b) (nn b) M (sh_ b) (nn b) M := by
  refine met_of (by decide) (Nat.le_of_ble_eq_true rfl) ?_
  intro p e s m args below meth c X _ hR ls hl
  exact wX11_isWord_0 hw X h hR hl
def fX11_passes_20 (M : Mem) : Option (Int32 × Mem) := some ((0 : Int32), M)
def fX11_passes (x1 : Int32) (M : Mem) : Option (Int32 × Mem) := (if x1 = 0 then (if (M.1 47 4) = (-1 : Int32) then nx (sI M 47 4 (M.1 47 2)) (fun M17 => fX11_passes_20 M17) else fX11_passes_20 M) else nx (sI M 47 2 (M.1 47 3)) (fun M27 => (fX11_skips M27).bind (fun q31 => some ((1 : Int32), q31))))
set_option maxHeartbeats 4000000 in
set_option maxRecDepth 100000 in
theorem wX11_passes_20 {r : Int32} {M1 : Mem} (X : CX E p s m args c meth cX11_passes 2 (some .boolean) RX11) : ∀ {M : Mem} {H : Heap} {locs : List Loc} {ls : Array Slot}, fX11_passes_20 M = some (r, M1) → Rl E (sh_ b) (nn b) s.heap M H locs → lv_has ls 2 [] → W p l e (rm 3 0 0) s m args below meth c H locs 0 0 (MQ below (qq E (some (.int r)) (sh_ b) (nn b) M1) args s 0 0 (fr E)) (F0 m 20 ls []) := by
  obtain ⟨hx, hb, hr, hml, hown, hts, hK, hN, hO, hlk, hbs⟩ := id X
  intro M H locs ls hf hR hl
  unfold fX11_passes_20 at hf
  refine lv_iconst (v := 0) hx hb dX11_passes_20 (by decide) ?_
  cases hf
  exact x_zret hx hb hr hlk hR (by decide) dX11_passes_21
set_option maxHeartbeats 4000000 in
set_option maxRecDepth 100000 in
theorem wX11_passes_0 {r : Int32} {M1 : Mem} (X : CX E p s m args c meth cX11_passes 2 (some .boolean) RX11) : ∀ {x1 : Int32} {M : Mem} {H : Heap} {locs : List Loc} {ls : Array Slot}, fX11_passes x1 M = some (r, M1) → Rl E (sh_ b) (nn b) s.heap M H locs → lv_has ls 2 [(0, .ref (eB E + 47)), (1, .int x1)] → W p l e (rm 3 0 0) s m args below meth c H locs 0 0 (MQ below (qq E (some (.int r)) (sh_ b) (nn b) M1) args s 0 0 (fr E)) (F0 m 0 ls []) := by
  obtain ⟨hx, hb, hr, hml, hown, hts, hK, hN, hO, hlk, hbs⟩ := id X
  intro x1 M H locs ls hf hR hl
  unfold fX11_passes at hf
  refine lv_iload_n hx hb dX11_passes_0 rfl (lv_at hl 1 rfl) ?_
  refine lv_if_ne (tgt := 22) hx hb dX11_passes_1 (by decide) (fun q1 => ?_) (fun q1 => ?_)
  · have hf := (br_if hf).2 q1
    refine lv_aload_n hx hb dX11_passes_22 rfl (lv_at hl 0 rfl) ?_
    refine lv_aload_n hx hb dX11_passes_23 rfl (lv_at hl 0 rfl) ?_
    refine x_get hx hb hown hts hK hR kX11 (z_47 b) (j := 3) (by decide) fl_X11_129 (v := .int (M.1 47 3)) rfl dX11_passes_24 ?_
    refine x_puti hx hb hown hts hK hR kX11 (z_47 b) (j := 2) (by decide) fl_X11_126 rfl rfl rfl rfl dX11_passes_27 (fun H locs hR => ?_)
    obtain ⟨M27, e27⟩ : ∃ y : Mem, y = (sI M 47 2 (M.1 47 3)) := ⟨_, rfl⟩
    have hf := nx_at e27 hf
    have hR : Rl E (sh_ b) (nn b) s.heap M27 H locs := by rw [e27]; exact hR
    refine lv_aload_n hx hb dX11_passes_30 rfl (lv_at hl 0 rfl) ?_
    obtain ⟨q31, c31, hf⟩ := br_b hf
    refine x_callV (k := 47) (As := []) (rest := []) (st1 := []) X hR (ctX11_skips c31) ml_X11_150 im_X11_skips se_X11_skips in_X11 co_X11_skips yo_X11_skips rfl kX11 (z_47 b) (rm_ok (by decide) (by decide)) rfl hl.1 rfl rfl (Nat.le_of_ble_eq_true rfl) dX11_passes_31 ⟨Nat.zero_le _, Nat.zero_le _⟩ (fun H locs hR => ?_)
    refine lv_iconst (v := 1) hx hb dX11_passes_34 (by decide) ?_
    cases hf
    exact x_zret hx hb hr hlk hR (by decide) dX11_passes_35
  · have hf := (br_if hf).1 q1
    refine lv_aload_n hx hb dX11_passes_4 rfl (lv_at hl 0 rfl) ?_
    refine x_get hx hb hown hts hK hR kX11 (z_47 b) (j := 4) (by decide) fl_X11_147 (v := .int (M.1 47 4)) rfl dX11_passes_5 ?_
    refine lv_iconst (v := -1) hx hb dX11_passes_8 (by decide) ?_
    refine lv_icmp_ne (tgt := 20) hx hb dX11_passes_9 (by decide) (fun q9 => ?_) (fun q9 => ?_)
    · have hf := (br_if hf).2 q9
      exact wX11_passes_20 X hf hR (lv_sub hl [] rfl)
    · have hf := (br_if hf).1 q9
      refine lv_aload_n hx hb dX11_passes_12 rfl (lv_at hl 0 rfl) ?_
      refine lv_aload_n hx hb dX11_passes_13 rfl (lv_at hl 0 rfl) ?_
      refine x_get hx hb hown hts hK hR kX11 (z_47 b) (j := 2) (by decide) fl_X11_126 (v := .int (M.1 47 2)) rfl dX11_passes_14 ?_
      refine x_puti hx hb hown hts hK hR kX11 (z_47 b) (j := 4) (by decide) fl_X11_147 rfl rfl rfl rfl dX11_passes_17 (fun H locs hR => ?_)
      obtain ⟨M17, e17⟩ : ∃ y : Mem, y = (sI M 47 4 (M.1 47 2)) := ⟨_, rfl⟩
      have hf := nx_at e17 hf
      have hR : Rl E (sh_ b) (nn b) s.heap M17 H locs := by rw [e17]; exact hR
      exact wX11_passes_20 X hf hR (lv_sub hl [] rfl)
theorem ctX11_passes {l : Launch} {E : Ge} {b : Bool} {M : Mem} {x1 : Int32} {r : Int32} {M1 : Mem} (h : fX11_passes x1 M = some (r, M1)) : CT l E yX11_passes cX11_passes 2 (some .boolean) 3 0 0 [.ref (eB E + 47), .int x1] (some (.int r)) (sh_ b) (nn b) M (sh_ b) (nn b) M1 := by
  refine met_of (by decide) (Nat.le_of_ble_eq_true rfl) ?_
  intro p e s m args below meth c X _ hR ls hl
  exact wX11_passes_0 X h hR hl
def fX11_number_84 (k41 : Int32 → Int32 → Int32 → Int32 → Int32 → Mem → Option (Int32 × Mem)) (k92 : Int32 → Int32 → Int32 → Int32 → Mem → Option (Int32 × Mem)) (x1 : Int32) (x2 : Int32) (x3 : Int32) (x5 : Int32) (s0 : Int32) (M : Mem) : Option (Int32 × Mem) := nx (x5 + (1 : Int32)) (fun v86 => k41 x1 x2 x3 s0 v86 M)
def fX11_number_41 (k92 : Int32 → Int32 → Int32 → Int32 → Mem → Option (Int32 × Mem)) : Nat → Int32 → Int32 → Int32 → Int32 → Int32 → Mem → Option (Int32 × Mem)
  | 0, _, _, _, _, _, _ => none
  | n + 1, x1, x2, x3, x4, x5, M => (if x3 = 0 then k92 x1 x2 x3 x4 M else (if (M.1 47 3) ≤ x5 then k92 x1 x2 x3 x4 M else (if x4 ≤ (999 : Int32) then (if inb x5 600 = true then fX11_number_84 (fX11_number_41 k92 n) k92 x1 x2 x3 x5 (((((10 : Int32) * x4) + (M.1 48 (ix x5))) - (48 : Int32))) M else none) else fX11_number_84 (fX11_number_41 k92 n) k92 x1 x2 x3 x5 (9999 : Int32) M)))
def fX11_number_121 (s1 : Int32) (M : Mem) : Option (Int32 × Mem) := (fX11_passes s1 M).bind (fun q121 => some ((q121.1 &&& 1), q121.2))
def fX11_number_120 (M : Mem) : Option (Int32 × Mem) := fX11_number_121 (0 : Int32) M
def fX11_number_92 (x1 : Int32) (x2 : Int32) (x3 : Int32) (x4 : Int32) (M : Mem) : Option (Int32 × Mem) := nx (sI M 47 5 x4) (fun M95 => (if x3 = 0 then fX11_number_120 M95 else (fX11_in M95 (x4.toInt64) (x1.toInt64) (x2.toInt64)).bind (fun q110 => (if q110 = 0 then fX11_number_120 M95 else fX11_number_121 (1 : Int32) M95))))
def fX11_number_31 (x1 : Int32) (x2 : Int32) (s0 : Int32) (M : Mem) : Option (Int32 × Mem) := nx (M.1 47 2) (fun v39 => fX11_number_41 fX11_number_92 FU x1 x2 s0 (0 : Int32) v39 M)
def fX11_number_30 (x1 : Int32) (x2 : Int32) (M : Mem) : Option (Int32 × Mem) := fX11_number_31 x1 x2 (0 : Int32) M
def fX11_number (x1 : Int32) (x2 : Int32) (M : Mem) : Option (Int32 × Mem) := (if (M.1 47 1) ≤ (M.1 47 2) then fX11_number_30 x1 x2 M else (if inb (M.1 47 2) 600 = true then (fX11_isDigit M (M.1 48 (ix (M.1 47 2)))).bind (fun q20 => (if q20 = 0 then fX11_number_30 x1 x2 M else fX11_number_31 x1 x2 (1 : Int32) M)) else none))
set_option maxHeartbeats 4000000 in
set_option maxRecDepth 100000 in
theorem wX11_number_84 {r : Int32} {M1 : Mem} {k41 : Int32 → Int32 → Int32 → Int32 → Int32 → Mem → Option (Int32 × Mem)} {k92 : Int32 → Int32 → Int32 → Int32 → Mem → Option (Int32 × Mem)} (X : CX E p s m args c meth cX11_number 6 (some .boolean) RX11) (hk41 : ∀ {x1 : Int32} {x2 : Int32} {x3 : Int32} {x4 : Int32} {x5 : Int32} {M : Mem} {H : Heap} {locs : List Loc} {ls : Array Slot}, k41 x1 x2 x3 x4 x5 M = some (r, M1) → Rl E (sh_ b) (nn b) s.heap M H locs → lv_has ls 6 [(0, .ref (eB E + 47)), (1, .int x1), (2, .int x2), (3, .int x3), (4, .int x4), (5, .int x5)] → W p l e (rm 4 0 0) s m args below meth c H locs 0 0 (MQ below (qq E (some (.int r)) (sh_ b) (nn b) M1) args s 0 0 (fr E)) (F0 m 41 ls [])) (hk92 : ∀ {x1 : Int32} {x2 : Int32} {x3 : Int32} {x4 : Int32} {M : Mem} {H : Heap} {locs : List Loc} {ls : Array Slot}, k92 x1 x2 x3 x4 M = some (r, M1) → Rl E (sh_ b) (nn b) s.heap M H locs → lv_has ls 6 [(0, .ref (eB E + 47)), (1, .int x1), (2, .int x2), (3, .int x3), (4, .int x4)] → W p l e (rm 4 0 0) s m args below meth c H locs 0 0 (MQ below (qq E (some (.int r)) (sh_ b) (nn b) M1) args s 0 0 (fr E)) (F0 m 92 ls [])) : ∀ {x1 : Int32} {x2 : Int32} {x3 : Int32} {x5 : Int32} {s0 : Int32} {M : Mem} {H : Heap} {locs : List Loc} {ls : Array Slot}, fX11_number_84 k41 k92 x1 x2 x3 x5 s0 M = some (r, M1) → Rl E (sh_ b) (nn b) s.heap M H locs → lv_has ls 6 [(0, .ref (eB E + 47)), (1, .int x1), (2, .int x2), (3, .int x3), (5, .int x5)] → W p l e (rm 4 0 0) s m args below meth c H locs 0 0 (MQ below (qq E (some (.int r)) (sh_ b) (nn b) M1) args s 0 0 (fr E)) (F0 m 84 ls [.int s0]) := by
  obtain ⟨hx, hb, hr, hml, hown, hts, hK, hN, hO, hlk, hbs⟩ := id X
  intro x1 x2 x3 x5 s0 M H locs ls hf hR hl
  unfold fX11_number_84 at hf
  refine lv_istore (lv' := [(4, .int s0), (0, .ref (eB E + 47)), (1, .int x1), (2, .int x2), (3, .int x3), (5, .int x5)]) hx hb dX11_number_84 hl (by decide) rfl (fun ls hl => ?_)
  obtain ⟨v86, e86⟩ : ∃ y : Int32, y = (x5 + (1 : Int32)) := ⟨_, rfl⟩
  have hf := nx_at e86 hf
  refine lv_iinc (v := v86) (lv' := [(5, .int v86), (4, .int s0), (0, .ref (eB E + 47)), (1, .int x1), (2, .int x2), (3, .int x3)]) hx hb dX11_number_86 hl (k := 5) rfl (by rw [e86]; rfl) (by decide) rfl (fun ls hl => ?_)
  refine lv_goto (tgt := 41) hx hb dX11_number_89 (by decide) ?_
  exact hk41 hf hR (lv_sub hl [2, 3, 4, 5, 1, 0] rfl)
set_option maxHeartbeats 4000000 in
set_option maxRecDepth 100000 in
theorem wX11_number_41 {r : Int32} {M1 : Mem} {k92 : Int32 → Int32 → Int32 → Int32 → Mem → Option (Int32 × Mem)} (X : CX E p s m args c meth cX11_number 6 (some .boolean) RX11) (hk92 : ∀ {x1 : Int32} {x2 : Int32} {x3 : Int32} {x4 : Int32} {M : Mem} {H : Heap} {locs : List Loc} {ls : Array Slot}, k92 x1 x2 x3 x4 M = some (r, M1) → Rl E (sh_ b) (nn b) s.heap M H locs → lv_has ls 6 [(0, .ref (eB E + 47)), (1, .int x1), (2, .int x2), (3, .int x3), (4, .int x4)] → W p l e (rm 4 0 0) s m args below meth c H locs 0 0 (MQ below (qq E (some (.int r)) (sh_ b) (nn b) M1) args s 0 0 (fr E)) (F0 m 92 ls [])) : ∀ (n : Nat) {x1 : Int32} {x2 : Int32} {x3 : Int32} {x4 : Int32} {x5 : Int32} {M : Mem} {H : Heap} {locs : List Loc} {ls : Array Slot}, fX11_number_41 k92 n x1 x2 x3 x4 x5 M = some (r, M1) → Rl E (sh_ b) (nn b) s.heap M H locs → lv_has ls 6 [(0, .ref (eB E + 47)), (1, .int x1), (2, .int x2), (3, .int x3), (4, .int x4), (5, .int x5)] → W p l e (rm 4 0 0) s m args below meth c H locs 0 0 (MQ below (qq E (some (.int r)) (sh_ b) (nn b) M1) args s 0 0 (fr E)) (F0 m 41 ls []) := by
  obtain ⟨hx, hb, hr, hml, hown, hts, hK, hN, hO, hlk, hbs⟩ := id X
  intro n
  induction n with
  | zero =>
    intro x1 x2 x3 x4 x5 M H locs ls hf hR hl
    exact absurd (show none = some _ from hf) (fun h => by cases h)
  | succ n ih =>
    intro x1 x2 x3 x4 x5 M H locs ls hf hR hl
    rw [fX11_number_41] at hf
    refine lv_iload_n hx hb dX11_number_41 rfl (lv_at hl 3 rfl) ?_
    refine lv_if_eq (tgt := 92) hx hb dX11_number_42 (by decide) (fun q42 => ?_) (fun q42 => ?_)
    · have hf := (br_if hf).1 q42
      exact hk92 hf hR (lv_sub hl [0, 1, 2, 3, 4] rfl)
    · have hf := (br_if hf).2 q42
      refine lv_iload hx hb dX11_number_45 (lv_at hl 5 rfl) ?_
      refine lv_aload_n hx hb dX11_number_47 rfl (lv_at hl 0 rfl) ?_
      refine x_get hx hb hown hts hK hR kX11 (z_47 b) (j := 3) (by decide) fl_X11_129 (v := .int (M.1 47 3)) rfl dX11_number_48 ?_
      refine lv_icmp_ge (tgt := 92) hx hb dX11_number_51 (by decide) (fun q51 => ?_) (fun q51 => ?_)
      · have hf := (br_if hf).1 q51
        exact hk92 hf hR (lv_sub hl [0, 1, 2, 3, 4] rfl)
      · have hf := (br_if hf).2 q51
        refine lv_iload hx hb dX11_number_54 (lv_at hl 4 rfl) ?_
        refine lv_sipush (v := 999) hx hb dX11_number_56 (by decide) ?_
        refine lv_icmp_le (tgt := 68) hx hb dX11_number_59 (by decide) (fun q59 => ?_) (fun q59 => ?_)
        · have hf := (br_if hf).1 q59
          refine lv_bipush (v := 10) hx hb dX11_number_68 (by decide) ?_
          refine lv_iload hx hb dX11_number_70 (lv_at hl 4 rfl) ?_
          refine lv_imul hx hb dX11_number_72 ?_
          refine lv_aload_n hx hb dX11_number_73 rfl (lv_at hl 0 rfl) ?_
          refine x_get hx hb hown hts hK hR kX11 (z_47 b) (j := 0) (by decide) fl_X11_9 (v := .ref (eB E + 48)) rfl dX11_number_74 ?_
          refine lv_iload hx hb dX11_number_77 (lv_at hl 5 rfl) ?_
          obtain ⟨g79, hf⟩ := br_g hf
          refine x_bald hx hb hK hR (z_48 b) g79 dX11_number_79 ?_
          refine lv_iadd hx hb dX11_number_80 ?_
          refine lv_bipush (v := 48) hx hb dX11_number_81 (by decide) ?_
          refine lv_isub hx hb dX11_number_83 ?_
          exact wX11_number_84 X (fun hf hR hl => ih hf hR hl) (fun hf hR hl => hk92 hf hR hl) hf hR (lv_sub hl [0, 1, 2, 3, 5] rfl)
        · have hf := (br_if hf).2 q59
          refine lv_sipush (v := 9999) hx hb dX11_number_62 (by decide) ?_
          refine lv_goto (tgt := 84) hx hb dX11_number_65 (by decide) ?_
          exact wX11_number_84 X (fun hf hR hl => ih hf hR hl) (fun hf hR hl => hk92 hf hR hl) hf hR (lv_sub hl [0, 1, 2, 3, 5] rfl)
set_option maxHeartbeats 4000000 in
set_option maxRecDepth 100000 in
theorem wX11_number_121 {r : Int32} {M1 : Mem} (X : CX E p s m args c meth cX11_number 6 (some .boolean) RX11) : ∀ {s1 : Int32} {M : Mem} {H : Heap} {locs : List Loc} {ls : Array Slot}, fX11_number_121 s1 M = some (r, M1) → Rl E (sh_ b) (nn b) s.heap M H locs → lv_has ls 6 [] → W p l e (rm 4 0 0) s m args below meth c H locs 0 0 (MQ below (qq E (some (.int r)) (sh_ b) (nn b) M1) args s 0 0 (fr E)) (F0 m 121 ls [.int s1, .ref (eB E + 47)]) := by
  obtain ⟨hx, hb, hr, hml, hown, hts, hK, hN, hO, hlk, hbs⟩ := id X
  intro s1 M H locs ls hf hR hl
  unfold fX11_number_121 at hf
  obtain ⟨q121, c121, hf⟩ := br_b hf
  refine x_callV (k := 47) (As := [.int s1]) (rest := []) (st1 := [.int q121.1]) X hR (ctX11_passes c121) ml_X11_156 im_X11_passes se_X11_passes in_X11 co_X11_passes yo_X11_passes rfl kX11 (z_47 b) (rm_ok (by decide) (by decide)) rfl hl.1 rfl rfl (Nat.le_of_ble_eq_true rfl) dX11_number_121 ⟨Nat.zero_le _, Nat.zero_le _⟩ (fun H locs hR => ?_)
  cases hf
  exact x_zret hx hb hr hlk hR rfl dX11_number_124
set_option maxHeartbeats 4000000 in
set_option maxRecDepth 100000 in
theorem wX11_number_120 {r : Int32} {M1 : Mem} (X : CX E p s m args c meth cX11_number 6 (some .boolean) RX11) : ∀ {M : Mem} {H : Heap} {locs : List Loc} {ls : Array Slot}, fX11_number_120 M = some (r, M1) → Rl E (sh_ b) (nn b) s.heap M H locs → lv_has ls 6 [] → W p l e (rm 4 0 0) s m args below meth c H locs 0 0 (MQ below (qq E (some (.int r)) (sh_ b) (nn b) M1) args s 0 0 (fr E)) (F0 m 120 ls [.ref (eB E + 47)]) := by
  obtain ⟨hx, hb, hr, hml, hown, hts, hK, hN, hO, hlk, hbs⟩ := id X
  intro M H locs ls hf hR hl
  unfold fX11_number_120 at hf
  refine lv_iconst (v := 0) hx hb dX11_number_120 (by decide) ?_
  exact wX11_number_121 X hf hR hl
set_option maxHeartbeats 4000000 in
set_option maxRecDepth 100000 in
theorem wX11_number_92 {r : Int32} {M1 : Mem} (X : CX E p s m args c meth cX11_number 6 (some .boolean) RX11) : ∀ {x1 : Int32} {x2 : Int32} {x3 : Int32} {x4 : Int32} {M : Mem} {H : Heap} {locs : List Loc} {ls : Array Slot}, fX11_number_92 x1 x2 x3 x4 M = some (r, M1) → Rl E (sh_ b) (nn b) s.heap M H locs → lv_has ls 6 [(0, .ref (eB E + 47)), (1, .int x1), (2, .int x2), (3, .int x3), (4, .int x4)] → W p l e (rm 4 0 0) s m args below meth c H locs 0 0 (MQ below (qq E (some (.int r)) (sh_ b) (nn b) M1) args s 0 0 (fr E)) (F0 m 92 ls []) := by
  obtain ⟨hx, hb, hr, hml, hown, hts, hK, hN, hO, hlk, hbs⟩ := id X
  intro x1 x2 x3 x4 M H locs ls hf hR hl
  unfold fX11_number_92 at hf
  refine lv_aload_n hx hb dX11_number_92 rfl (lv_at hl 0 rfl) ?_
  refine lv_iload hx hb dX11_number_93 (lv_at hl 4 rfl) ?_
  refine x_puti hx hb hown hts hK hR kX11 (z_47 b) (j := 5) (by decide) fl_X11_153 rfl rfl rfl rfl dX11_number_95 (fun H locs hR => ?_)
  obtain ⟨M95, e95⟩ : ∃ y : Mem, y = (sI M 47 5 x4) := ⟨_, rfl⟩
  have hf := nx_at e95 hf
  have hR : Rl E (sh_ b) (nn b) s.heap M95 H locs := by rw [e95]; exact hR
  refine lv_aload_n hx hb dX11_number_98 rfl (lv_at hl 0 rfl) ?_
  refine lv_iload_n hx hb dX11_number_99 rfl (lv_at hl 3 rfl) ?_
  refine lv_if_eq (tgt := 120) hx hb dX11_number_100 (by decide) (fun q100 => ?_) (fun q100 => ?_)
  · have hf := (br_if hf).1 q100
    exact wX11_number_120 X hf hR (lv_sub hl [] rfl)
  · have hf := (br_if hf).2 q100
    refine lv_iload hx hb dX11_number_103 (lv_at hl 4 rfl) ?_
    refine lv_i2l (v := x4.toInt64) hx hb dX11_number_105 rfl ?_
    refine lv_iload_n hx hb dX11_number_106 rfl (lv_at hl 1 rfl) ?_
    refine lv_i2l (v := x1.toInt64) hx hb dX11_number_107 rfl ?_
    refine lv_iload_n hx hb dX11_number_108 rfl (lv_at hl 2 rfl) ?_
    refine lv_i2l (v := x2.toInt64) hx hb dX11_number_109 rfl ?_
    obtain ⟨q110, c110, hf⟩ := br_b hf
    refine x_callS (As := [.long x4.toInt64, .long x1.toInt64, .long x2.toInt64]) (rest := [.ref (eB E + 47)]) (st1 := [.int q110, .ref (eB E + 47)]) X hR (ctX11_in c110) ml_X11_122 st_X11_in in_X11 co_X11_in yo_X11_in (rm_ok (by decide) (by decide)) rfl hl.1 rfl rfl (Nat.le_of_ble_eq_true rfl) dX11_number_110 ⟨Nat.zero_le _, Nat.zero_le _⟩ (fun H locs hR => ?_)
    refine lv_if_eq (tgt := 120) hx hb dX11_number_113 (by decide) (fun q113 => ?_) (fun q113 => ?_)
    · have hf := (br_if hf).1 q113
      exact wX11_number_120 X hf hR (lv_sub hl [] rfl)
    · have hf := (br_if hf).2 q113
      refine lv_iconst (v := 1) hx hb dX11_number_116 (by decide) ?_
      refine lv_goto (tgt := 121) hx hb dX11_number_117 (by decide) ?_
      exact wX11_number_121 X hf hR (lv_sub hl [] rfl)
set_option maxHeartbeats 4000000 in
set_option maxRecDepth 100000 in
theorem wX11_number_31 {r : Int32} {M1 : Mem} (X : CX E p s m args c meth cX11_number 6 (some .boolean) RX11) : ∀ {x1 : Int32} {x2 : Int32} {s0 : Int32} {M : Mem} {H : Heap} {locs : List Loc} {ls : Array Slot}, fX11_number_31 x1 x2 s0 M = some (r, M1) → Rl E (sh_ b) (nn b) s.heap M H locs → lv_has ls 6 [(0, .ref (eB E + 47)), (1, .int x1), (2, .int x2)] → W p l e (rm 4 0 0) s m args below meth c H locs 0 0 (MQ below (qq E (some (.int r)) (sh_ b) (nn b) M1) args s 0 0 (fr E)) (F0 m 31 ls [.int s0]) := by
  obtain ⟨hx, hb, hr, hml, hown, hts, hK, hN, hO, hlk, hbs⟩ := id X
  intro x1 x2 s0 M H locs ls hf hR hl
  unfold fX11_number_31 at hf
  refine lv_istore_n (lv' := [(3, .int s0), (0, .ref (eB E + 47)), (1, .int x1), (2, .int x2)]) hx hb dX11_number_31 rfl hl (by decide) rfl (fun ls hl => ?_)
  refine lv_iconst (v := 0) hx hb dX11_number_32 (by decide) ?_
  refine lv_istore (lv' := [(4, .int (0 : Int32)), (3, .int s0), (0, .ref (eB E + 47)), (1, .int x1), (2, .int x2)]) hx hb dX11_number_33 hl (by decide) rfl (fun ls hl => ?_)
  refine lv_aload_n hx hb dX11_number_35 rfl (lv_at hl 2 rfl) ?_
  refine x_get hx hb hown hts hK hR kX11 (z_47 b) (j := 2) (by decide) fl_X11_126 (v := .int (M.1 47 2)) rfl dX11_number_36 ?_
  refine lv_topi (fun v39 e39 => ?_)
  have hf := nx_at e39 hf
  refine lv_istore (lv' := [(5, .int v39), (4, .int (0 : Int32)), (3, .int s0), (0, .ref (eB E + 47)), (1, .int x1), (2, .int x2)]) hx hb dX11_number_39 hl (by decide) rfl (fun ls hl => ?_)
  exact wX11_number_41 X (fun hf hR hl => wX11_number_92 X hf hR hl) FU hf hR (lv_sub hl [3, 4, 5, 2, 1, 0] rfl)
set_option maxHeartbeats 4000000 in
set_option maxRecDepth 100000 in
theorem wX11_number_30 {r : Int32} {M1 : Mem} (X : CX E p s m args c meth cX11_number 6 (some .boolean) RX11) : ∀ {x1 : Int32} {x2 : Int32} {M : Mem} {H : Heap} {locs : List Loc} {ls : Array Slot}, fX11_number_30 x1 x2 M = some (r, M1) → Rl E (sh_ b) (nn b) s.heap M H locs → lv_has ls 6 [(0, .ref (eB E + 47)), (1, .int x1), (2, .int x2)] → W p l e (rm 4 0 0) s m args below meth c H locs 0 0 (MQ below (qq E (some (.int r)) (sh_ b) (nn b) M1) args s 0 0 (fr E)) (F0 m 30 ls []) := by
  obtain ⟨hx, hb, hr, hml, hown, hts, hK, hN, hO, hlk, hbs⟩ := id X
  intro x1 x2 M H locs ls hf hR hl
  unfold fX11_number_30 at hf
  refine lv_iconst (v := 0) hx hb dX11_number_30 (by decide) ?_
  exact wX11_number_31 X hf hR hl
set_option maxHeartbeats 4000000 in
set_option maxRecDepth 100000 in
theorem wX11_number_0 {r : Int32} {M1 : Mem} (X : CX E p s m args c meth cX11_number 6 (some .boolean) RX11) : ∀ {x1 : Int32} {x2 : Int32} {M : Mem} {H : Heap} {locs : List Loc} {ls : Array Slot}, fX11_number x1 x2 M = some (r, M1) → Rl E (sh_ b) (nn b) s.heap M H locs → lv_has ls 6 [(0, .ref (eB E + 47)), (1, .int x1), (2, .int x2)] → W p l e (rm 4 0 0) s m args below meth c H locs 0 0 (MQ below (qq E (some (.int r)) (sh_ b) (nn b) M1) args s 0 0 (fr E)) (F0 m 0 ls []) := by
  obtain ⟨hx, hb, hr, hml, hown, hts, hK, hN, hO, hlk, hbs⟩ := id X
  intro x1 x2 M H locs ls hf hR hl
  unfold fX11_number at hf
  refine lv_aload_n hx hb dX11_number_0 rfl (lv_at hl 0 rfl) ?_
  refine x_get hx hb hown hts hK hR kX11 (z_47 b) (j := 2) (by decide) fl_X11_126 (v := .int (M.1 47 2)) rfl dX11_number_1 ?_
  refine lv_aload_n hx hb dX11_number_4 rfl (lv_at hl 0 rfl) ?_
  refine x_get hx hb hown hts hK hR kX11 (z_47 b) (j := 1) (by decide) fl_X11_114 (v := .int (M.1 47 1)) rfl dX11_number_5 ?_
  refine lv_icmp_ge (tgt := 30) hx hb dX11_number_8 (by decide) (fun q8 => ?_) (fun q8 => ?_)
  · have hf := (br_if hf).1 q8
    exact wX11_number_30 X hf hR hl
  · have hf := (br_if hf).2 q8
    refine lv_aload_n hx hb dX11_number_11 rfl (lv_at hl 0 rfl) ?_
    refine x_get hx hb hown hts hK hR kX11 (z_47 b) (j := 0) (by decide) fl_X11_9 (v := .ref (eB E + 48)) rfl dX11_number_12 ?_
    refine lv_aload_n hx hb dX11_number_15 rfl (lv_at hl 0 rfl) ?_
    refine x_get hx hb hown hts hK hR kX11 (z_47 b) (j := 2) (by decide) fl_X11_126 (v := .int (M.1 47 2)) rfl dX11_number_16 ?_
    obtain ⟨g19, hf⟩ := br_g hf
    refine x_bald hx hb hK hR (z_48 b) g19 dX11_number_19 ?_
    obtain ⟨q20, c20, hf⟩ := br_b hf
    refine x_callS (As := [.int (M.1 48 (ix (M.1 47 2)))]) (rest := []) (st1 := [.int q20]) X hR (ctX11_isDigit c20) ml_X11_136 st_X11_isDigit in_X11 co_X11_isDigit yo_X11_isDigit (rm_ok (by decide) (by decide)) rfl hl.1 rfl rfl (Nat.le_of_ble_eq_true rfl) dX11_number_20 ⟨Nat.zero_le _, Nat.zero_le _⟩ (fun H locs hR => ?_)
    refine lv_if_eq (tgt := 30) hx hb dX11_number_23 (by decide) (fun q23 => ?_) (fun q23 => ?_)
    · have hf := (br_if hf).1 q23
      exact wX11_number_30 X hf hR hl
    · have hf := (br_if hf).2 q23
      refine lv_iconst (v := 1) hx hb dX11_number_26 (by decide) ?_
      refine lv_goto (tgt := 31) hx hb dX11_number_27 (by decide) ?_
      exact wX11_number_31 X hf hR hl
theorem ctX11_number {l : Launch} {E : Ge} {b : Bool} {M : Mem} {x1 : Int32} {x2 : Int32} {r : Int32} {M1 : Mem} (h : fX11_number x1 x2 M = some (r, M1)) : CT l E yX11_number cX11_number 6 (some .boolean) 4 0 0 [.ref (eB E + 47), .int x1, .int x2] (some (.int r)) (sh_ b) (nn b) M (sh_ b) (nn b) M1 := by
  refine met_of (by decide) (Nat.le_of_ble_eq_true rfl) ?_
  intro p e s m args below meth c X _ hR ls hl
  exact wX11_number_0 X h hR hl
def fX11_isSign_29 (M : Mem) (s0 : Int32) : Option Int32 := some (s0 &&& 1)
def fX11_isSign_28 (M : Mem) : Option Int32 := fX11_isSign_29 M (0 : Int32)
def fX11_isSign (M : Mem) (x1 : Int32) : Option Int32 := (if (M.1 47 1) ≤ (M.1 47 2) then fX11_isSign_28 M else (if inb (M.1 47 2) 600 = true then (if (M.1 48 (ix (M.1 47 2))) = x1 then fX11_isSign_29 M (1 : Int32) else fX11_isSign_28 M) else none))
set_option maxHeartbeats 4000000 in
set_option maxRecDepth 100000 in
theorem wX11_isSign_29 {r : Int32} {M : Mem} (X : CX E p s m args c meth cX11_isSign 2 (some .boolean) RX11) : ∀ {s0 : Int32} {H : Heap} {locs : List Loc} {ls : Array Slot}, fX11_isSign_29 M s0 = some r → Rl E (sh_ b) (nn b) s.heap M H locs → lv_has ls 2 [] → W p l e (rm 1 0 0) s m args below meth c H locs 0 0 (MQ below (qq E (some (.int r)) (sh_ b) (nn b) M) args s 0 0 (fr E)) (F0 m 29 ls [.int s0]) := by
  obtain ⟨hx, hb, hr, hml, hown, hts, hK, hN, hO, hlk, hbs⟩ := id X
  intro s0 H locs ls hf hR hl
  unfold fX11_isSign_29 at hf
  cases hf
  exact x_zret hx hb hr hlk hR rfl dX11_isSign_29
set_option maxHeartbeats 4000000 in
set_option maxRecDepth 100000 in
theorem wX11_isSign_28 {r : Int32} {M : Mem} (X : CX E p s m args c meth cX11_isSign 2 (some .boolean) RX11) : ∀ {H : Heap} {locs : List Loc} {ls : Array Slot}, fX11_isSign_28 M = some r → Rl E (sh_ b) (nn b) s.heap M H locs → lv_has ls 2 [] → W p l e (rm 1 0 0) s m args below meth c H locs 0 0 (MQ below (qq E (some (.int r)) (sh_ b) (nn b) M) args s 0 0 (fr E)) (F0 m 28 ls []) := by
  obtain ⟨hx, hb, hr, hml, hown, hts, hK, hN, hO, hlk, hbs⟩ := id X
  intro H locs ls hf hR hl
  unfold fX11_isSign_28 at hf
  refine lv_iconst (v := 0) hx hb dX11_isSign_28 (by decide) ?_
  exact wX11_isSign_29 X hf hR hl
set_option maxHeartbeats 4000000 in
set_option maxRecDepth 100000 in
theorem wX11_isSign_0 {r : Int32} {M : Mem} (X : CX E p s m args c meth cX11_isSign 2 (some .boolean) RX11) : ∀ {x1 : Int32} {H : Heap} {locs : List Loc} {ls : Array Slot}, fX11_isSign M x1 = some r → Rl E (sh_ b) (nn b) s.heap M H locs → lv_has ls 2 [(0, .ref (eB E + 47)), (1, .int x1)] → W p l e (rm 1 0 0) s m args below meth c H locs 0 0 (MQ below (qq E (some (.int r)) (sh_ b) (nn b) M) args s 0 0 (fr E)) (F0 m 0 ls []) := by
  obtain ⟨hx, hb, hr, hml, hown, hts, hK, hN, hO, hlk, hbs⟩ := id X
  intro x1 H locs ls hf hR hl
  unfold fX11_isSign at hf
  refine lv_aload_n hx hb dX11_isSign_0 rfl (lv_at hl 0 rfl) ?_
  refine x_get hx hb hown hts hK hR kX11 (z_47 b) (j := 2) (by decide) fl_X11_126 (v := .int (M.1 47 2)) rfl dX11_isSign_1 ?_
  refine lv_aload_n hx hb dX11_isSign_4 rfl (lv_at hl 0 rfl) ?_
  refine x_get hx hb hown hts hK hR kX11 (z_47 b) (j := 1) (by decide) fl_X11_114 (v := .int (M.1 47 1)) rfl dX11_isSign_5 ?_
  refine lv_icmp_ge (tgt := 28) hx hb dX11_isSign_8 (by decide) (fun q8 => ?_) (fun q8 => ?_)
  · have hf := (br_if hf).1 q8
    exact wX11_isSign_28 X hf hR (lv_sub hl [] rfl)
  · have hf := (br_if hf).2 q8
    refine lv_aload_n hx hb dX11_isSign_11 rfl (lv_at hl 0 rfl) ?_
    refine x_get hx hb hown hts hK hR kX11 (z_47 b) (j := 0) (by decide) fl_X11_9 (v := .ref (eB E + 48)) rfl dX11_isSign_12 ?_
    refine lv_aload_n hx hb dX11_isSign_15 rfl (lv_at hl 0 rfl) ?_
    refine x_get hx hb hown hts hK hR kX11 (z_47 b) (j := 2) (by decide) fl_X11_126 (v := .int (M.1 47 2)) rfl dX11_isSign_16 ?_
    obtain ⟨g19, hf⟩ := br_g hf
    refine x_bald hx hb hK hR (z_48 b) g19 dX11_isSign_19 ?_
    refine lv_iload_n hx hb dX11_isSign_20 rfl (lv_at hl 1 rfl) ?_
    refine lv_icmp_ne (tgt := 28) hx hb dX11_isSign_21 (by decide) (fun q21 => ?_) (fun q21 => ?_)
    · have hf := (br_if hf).2 q21
      exact wX11_isSign_28 X hf hR (lv_sub hl [] rfl)
    · have hf := (br_if hf).1 q21
      refine lv_iconst (v := 1) hx hb dX11_isSign_24 (by decide) ?_
      refine lv_goto (tgt := 29) hx hb dX11_isSign_25 (by decide) ?_
      exact wX11_isSign_29 X hf hR (lv_sub hl [] rfl)
theorem ctX11_isSign {l : Launch} {E : Ge} {b : Bool} {M : Mem} {x1 : Int32} {r : Int32} (h : fX11_isSign M x1 = some r) : CT l E yX11_isSign cX11_isSign 2 (some .boolean) 1 0 0 [.ref (eB E + 47), .int x1] (some (.int r)) (sh_ b) (nn b) M (sh_ b) (nn b) M := by
  refine met_of (by decide) (Nat.le_of_ble_eq_true rfl) ?_
  intro p e s m args below meth c X _ hR ls hl
  exact wX11_isSign_0 X h hR hl
def fX11_stretch (M : Mem) : Option (Int32 × Mem) := (fX11_number (1 : Int32) (9 : Int32) M).bind (fun q4 => (if q4.1 = 0 then some ((0 : Int32), q4.2) else nx (q4.2.1 47 5) (fun v16 => (fX11_number (1 : Int32) (9 : Int32) q4.2).bind (fun q21 => (if q21.1 = 0 then some ((0 : Int32), q21.2) else nx (sI q21.2 47 20 v16) (fun M31 => nx (sI M31 47 21 (M31.1 47 5)) (fun M39 => (fX11_isSign M39 (59 : Int32)).bind (fun q46 => (fX11_passes q46 M39).bind (fun q49 => some ((q49.1 &&& 1), q49.2))))))))))
set_option maxHeartbeats 4000000 in
set_option maxRecDepth 100000 in
theorem wX11_stretch_0 {r : Int32} {M1 : Mem} (X : CX E p s m args c meth cX11_stretch 2 (some .boolean) RX11) : ∀ {M : Mem} {H : Heap} {locs : List Loc} {ls : Array Slot}, fX11_stretch M = some (r, M1) → Rl E (sh_ b) (nn b) s.heap M H locs → lv_has ls 2 [(0, .ref (eB E + 47))] → W p l e (rm 5 0 0) s m args below meth c H locs 0 0 (MQ below (qq E (some (.int r)) (sh_ b) (nn b) M1) args s 0 0 (fr E)) (F0 m 0 ls []) := by
  obtain ⟨hx, hb, hr, hml, hown, hts, hK, hN, hO, hlk, hbs⟩ := id X
  intro M H locs ls hf hR hl
  unfold fX11_stretch at hf
  refine lv_aload_n hx hb dX11_stretch_0 rfl (lv_at hl 0 rfl) ?_
  refine lv_iconst (v := 1) hx hb dX11_stretch_1 (by decide) ?_
  refine lv_bipush (v := 9) hx hb dX11_stretch_2 (by decide) ?_
  obtain ⟨q4, c4, hf⟩ := br_b hf
  refine x_callV (k := 47) (As := [.int (1 : Int32), .int (9 : Int32)]) (rest := []) (st1 := [.int q4.1]) X hR (ctX11_number c4) ml_X11_170 im_X11_number se_X11_number in_X11 co_X11_number yo_X11_number rfl kX11 (z_47 b) (rm_ok (by decide) (by decide)) rfl hl.1 rfl rfl (Nat.le_of_ble_eq_true rfl) dX11_stretch_4 ⟨Nat.zero_le _, Nat.zero_le _⟩ (fun H locs hR => ?_)
  refine lv_if_ne (tgt := 12) hx hb dX11_stretch_7 (by decide) (fun q7 => ?_) (fun q7 => ?_)
  · have hf := (br_if hf).2 q7
    refine lv_aload_n hx hb dX11_stretch_12 rfl (lv_at hl 0 rfl) ?_
    refine x_get hx hb hown hts hK hR kX11 (z_47 b) (j := 5) (by decide) fl_X11_153 (v := .int (q4.2.1 47 5)) rfl dX11_stretch_13 ?_
    refine lv_topi (fun v16 e16 => ?_)
    have hf := nx_at e16 hf
    refine lv_istore_n (lv' := [(1, .int v16), (0, .ref (eB E + 47))]) hx hb dX11_stretch_16 rfl hl (by decide) rfl (fun ls hl => ?_)
    refine lv_aload_n hx hb dX11_stretch_17 rfl (lv_at hl 1 rfl) ?_
    refine lv_iconst (v := 1) hx hb dX11_stretch_18 (by decide) ?_
    refine lv_bipush (v := 9) hx hb dX11_stretch_19 (by decide) ?_
    obtain ⟨q21, c21, hf⟩ := br_b hf
    refine x_callV (k := 47) (As := [.int (1 : Int32), .int (9 : Int32)]) (rest := []) (st1 := [.int q21.1]) X hR (ctX11_number c21) ml_X11_170 im_X11_number se_X11_number in_X11 co_X11_number yo_X11_number rfl kX11 (z_47 b) (rm_ok (by decide) (by decide)) rfl hl.1 rfl rfl (Nat.le_of_ble_eq_true rfl) dX11_stretch_21 ⟨Nat.zero_le _, Nat.zero_le _⟩ (fun H locs hR => ?_)
    refine lv_if_ne (tgt := 29) hx hb dX11_stretch_24 (by decide) (fun q24 => ?_) (fun q24 => ?_)
    · have hf := (br_if hf).2 q24
      refine lv_aload_n hx hb dX11_stretch_29 rfl (lv_at hl 1 rfl) ?_
      refine lv_iload_n hx hb dX11_stretch_30 rfl (lv_at hl 0 rfl) ?_
      refine x_puti hx hb hown hts hK hR kX11 (z_47 b) (j := 20) (by decide) fl_X11_174 rfl rfl rfl rfl dX11_stretch_31 (fun H locs hR => ?_)
      obtain ⟨M31, e31⟩ : ∃ y : Mem, y = (sI q21.2 47 20 v16) := ⟨_, rfl⟩
      have hf := nx_at e31 hf
      have hR : Rl E (sh_ b) (nn b) s.heap M31 H locs := by rw [e31]; exact hR
      refine lv_aload_n hx hb dX11_stretch_34 rfl (lv_at hl 1 rfl) ?_
      refine lv_aload_n hx hb dX11_stretch_35 rfl (lv_at hl 1 rfl) ?_
      refine x_get hx hb hown hts hK hR kX11 (z_47 b) (j := 5) (by decide) fl_X11_153 (v := .int (M31.1 47 5)) rfl dX11_stretch_36 ?_
      refine x_puti hx hb hown hts hK hR kX11 (z_47 b) (j := 21) (by decide) fl_X11_177 rfl rfl rfl rfl dX11_stretch_39 (fun H locs hR => ?_)
      obtain ⟨M39, e39⟩ : ∃ y : Mem, y = (sI M31 47 21 (M31.1 47 5)) := ⟨_, rfl⟩
      have hf := nx_at e39 hf
      have hR : Rl E (sh_ b) (nn b) s.heap M39 H locs := by rw [e39]; exact hR
      refine lv_aload_n hx hb dX11_stretch_42 rfl (lv_at hl 1 rfl) ?_
      refine lv_aload_n hx hb dX11_stretch_43 rfl (lv_at hl 1 rfl) ?_
      refine lv_bipush (v := 59) hx hb dX11_stretch_44 (by decide) ?_
      obtain ⟨q46, c46, hf⟩ := br_b hf
      refine x_callV (k := 47) (As := [.int (59 : Int32)]) (rest := [.ref (eB E + 47)]) (st1 := [.int q46, .ref (eB E + 47)]) X hR (ctX11_isSign c46) ml_X11_167 im_X11_isSign se_X11_isSign in_X11 co_X11_isSign yo_X11_isSign rfl kX11 (z_47 b) (rm_ok (by decide) (by decide)) rfl hl.1 rfl rfl (Nat.le_of_ble_eq_true rfl) dX11_stretch_46 ⟨Nat.zero_le _, Nat.zero_le _⟩ (fun H locs hR => ?_)
      obtain ⟨q49, c49, hf⟩ := br_b hf
      refine x_callV (k := 47) (As := [.int q46]) (rest := []) (st1 := [.int q49.1]) X hR (ctX11_passes c49) ml_X11_156 im_X11_passes se_X11_passes in_X11 co_X11_passes yo_X11_passes rfl kX11 (z_47 b) (rm_ok (by decide) (by decide)) rfl hl.1 rfl rfl (Nat.le_of_ble_eq_true rfl) dX11_stretch_49 ⟨Nat.zero_le _, Nat.zero_le _⟩ (fun H locs hR => ?_)
      cases hf
      exact x_zret hx hb hr hlk hR rfl dX11_stretch_52
    · have hf := (br_if hf).1 q24
      refine lv_iconst (v := 0) hx hb dX11_stretch_27 (by decide) ?_
      cases hf
      exact x_zret hx hb hr hlk hR (by decide) dX11_stretch_28
  · have hf := (br_if hf).1 q7
    refine lv_iconst (v := 0) hx hb dX11_stretch_10 (by decide) ?_
    cases hf
    exact x_zret hx hb hr hlk hR (by decide) dX11_stretch_11
theorem ctX11_stretch {l : Launch} {E : Ge} {b : Bool} {M : Mem} {r : Int32} {M1 : Mem} (h : fX11_stretch M = some (r, M1)) : CT l E yX11_stretch cX11_stretch 2 (some .boolean) 5 0 0 [.ref (eB E + 47)] (some (.int r)) (sh_ b) (nn b) M (sh_ b) (nn b) M1 := by
  refine met_of (by decide) (Nat.le_of_ble_eq_true rfl) ?_
  intro p e s m args below meth c X _ hR ls hl
  exact wX11_stretch_0 X h hR hl
def fX11_near_24 (k4 : Int32 → Int32 → Mem → Option (Int32 × Mem)) (k30 : Int32 → Mem → Option (Int32 × Mem)) (x1 : Int32) (x2 : Int32) (M : Mem) : Option (Int32 × Mem) := nx (x2 + (1 : Int32)) (fun v24 => k4 x1 v24 M)
def fX11_near_4 (k30 : Int32 → Mem → Option (Int32 × Mem)) : Nat → Int32 → Int32 → Mem → Option (Int32 × Mem)
  | 0, _, _, _ => none
  | n + 1, x1, x2, M => (if (4 : Int32) ≤ x2 then k30 x1 M else (if inb x2 4 = true then (fX11_isWord M (msN (ix x2))).bind (fun q16 => (if q16 = 0 then fX11_near_24 (fX11_near_4 k30 n) k30 x1 x2 M else fX11_near_24 (fX11_near_4 k30 n) k30 x2 x2 M)) else none))
def fX11_near_70 (s0 : Int32) (M : Mem) : Option (Int32 × Mem) := some ((s0 &&& 1), M)
def fX11_near_69 (M : Mem) : Option (Int32 × Mem) := fX11_near_70 (0 : Int32) M
def fX11_near_46 (s1 : Int32) (M : Mem) : Option (Int32 × Mem) := (fX11_passes s1 M).bind (fun q46 => (if q46.1 = 0 then fX11_near_69 (q46.2) else (fX11_isSign q46.2 (59 : Int32)).bind (fun q56 => (fX11_passes q56 q46.2).bind (fun q59 => (if q59.1 = 0 then fX11_near_69 (q59.2) else fX11_near_70 (1 : Int32) (q59.2))))))
def fX11_near_30 (x1 : Int32) (M : Mem) : Option (Int32 × Mem) := nx (sI M 47 19 x1) (fun M32 => (if x1 = (-1 : Int32) then fX11_near_46 (0 : Int32) M32 else fX11_near_46 (1 : Int32) M32))
def fX11_near (M : Mem) : Option (Int32 × Mem) := fX11_near_4 fX11_near_30 FU (-1 : Int32) (0 : Int32) M
set_option maxHeartbeats 4000000 in
set_option maxRecDepth 100000 in
theorem wX11_near_24 {r : Int32} {M1 : Mem} {k4 : Int32 → Int32 → Mem → Option (Int32 × Mem)} {k30 : Int32 → Mem → Option (Int32 × Mem)} (X : CX E p s m args c meth cX11_near 3 (some .boolean) RX11) (hk4 : ∀ {x1 : Int32} {x2 : Int32} {M : Mem} {H : Heap} {locs : List Loc} {ls : Array Slot}, k4 x1 x2 M = some (r, M1) → Rl E (sh_ b) (nn b) s.heap M H locs → lv_has ls 3 [(0, .ref (eB E + 47)), (1, .int x1), (2, .int x2)] → W p l e (rm 8 0 0) s m args below meth c H locs 0 0 (MQ below (qq E (some (.int r)) (sh_ b) (nn b) M1) args s 0 0 (fr E)) (F0 m 4 ls [])) (hk30 : ∀ {x1 : Int32} {M : Mem} {H : Heap} {locs : List Loc} {ls : Array Slot}, k30 x1 M = some (r, M1) → Rl E (sh_ b) (nn b) s.heap M H locs → lv_has ls 3 [(0, .ref (eB E + 47)), (1, .int x1)] → W p l e (rm 8 0 0) s m args below meth c H locs 0 0 (MQ below (qq E (some (.int r)) (sh_ b) (nn b) M1) args s 0 0 (fr E)) (F0 m 30 ls [])) : ∀ {x1 : Int32} {x2 : Int32} {M : Mem} {H : Heap} {locs : List Loc} {ls : Array Slot}, fX11_near_24 k4 k30 x1 x2 M = some (r, M1) → Rl E (sh_ b) (nn b) s.heap M H locs → lv_has ls 3 [(0, .ref (eB E + 47)), (1, .int x1), (2, .int x2)] → W p l e (rm 8 0 0) s m args below meth c H locs 0 0 (MQ below (qq E (some (.int r)) (sh_ b) (nn b) M1) args s 0 0 (fr E)) (F0 m 24 ls []) := by
  obtain ⟨hx, hb, hr, hml, hown, hts, hK, hN, hO, hlk, hbs⟩ := id X
  intro x1 x2 M H locs ls hf hR hl
  unfold fX11_near_24 at hf
  obtain ⟨v24, e24⟩ : ∃ y : Int32, y = (x2 + (1 : Int32)) := ⟨_, rfl⟩
  have hf := nx_at e24 hf
  refine lv_iinc (v := v24) (lv' := [(2, .int v24), (0, .ref (eB E + 47)), (1, .int x1)]) hx hb dX11_near_24 hl (k := 2) rfl (by rw [e24]; rfl) (by decide) rfl (fun ls hl => ?_)
  refine lv_goto (tgt := 4) hx hb dX11_near_27 (by decide) ?_
  exact hk4 hf hR (lv_sub hl [1, 2, 0] rfl)
set_option maxHeartbeats 4000000 in
set_option maxRecDepth 100000 in
theorem wX11_near_4 {r : Int32} {M1 : Mem} {k30 : Int32 → Mem → Option (Int32 × Mem)} (X : CX E p s m args c meth cX11_near 3 (some .boolean) RX11) (hk30 : ∀ {x1 : Int32} {M : Mem} {H : Heap} {locs : List Loc} {ls : Array Slot}, k30 x1 M = some (r, M1) → Rl E (sh_ b) (nn b) s.heap M H locs → lv_has ls 3 [(0, .ref (eB E + 47)), (1, .int x1)] → W p l e (rm 8 0 0) s m args below meth c H locs 0 0 (MQ below (qq E (some (.int r)) (sh_ b) (nn b) M1) args s 0 0 (fr E)) (F0 m 30 ls [])) : ∀ (n : Nat) {x1 : Int32} {x2 : Int32} {M : Mem} {H : Heap} {locs : List Loc} {ls : Array Slot}, fX11_near_4 k30 n x1 x2 M = some (r, M1) → Rl E (sh_ b) (nn b) s.heap M H locs → lv_has ls 3 [(0, .ref (eB E + 47)), (1, .int x1), (2, .int x2)] → W p l e (rm 8 0 0) s m args below meth c H locs 0 0 (MQ below (qq E (some (.int r)) (sh_ b) (nn b) M1) args s 0 0 (fr E)) (F0 m 4 ls []) := by
  obtain ⟨hx, hb, hr, hml, hown, hts, hK, hN, hO, hlk, hbs⟩ := id X
  intro n
  induction n with
  | zero =>
    intro x1 x2 M H locs ls hf hR hl
    exact absurd (show none = some _ from hf) (fun h => by cases h)
  | succ n ih =>
    intro x1 x2 M H locs ls hf hR hl
    rw [fX11_near_4] at hf
    refine lv_iload_n hx hb dX11_near_4 rfl (lv_at hl 2 rfl) ?_
    refine lv_iconst (v := 4) hx hb dX11_near_5 (by decide) ?_
    refine lv_icmp_ge (tgt := 30) hx hb dX11_near_6 (by decide) (fun q6 => ?_) (fun q6 => ?_)
    · have hf := (br_if hf).1 q6
      exact hk30 hf hR (lv_sub hl [0, 1] rfl)
    · have hf := (br_if hf).2 q6
      refine lv_aload_n hx hb dX11_near_9 rfl (lv_at hl 0 rfl) ?_
      refine lv_aload_n hx hb dX11_near_10 rfl (lv_at hl 0 rfl) ?_
      refine x_get hx hb hown hts hK hR kX11 (z_47 b) (j := 23) (by decide) fl_X11_65 (v := .ref (eB E + 78)) rfl dX11_near_11 ?_
      refine lv_iload_n hx hb dX11_near_14 rfl (lv_at hl 2 rfl) ?_
      obtain ⟨g15, hf⟩ := br_g hf
      refine x_aald7 hx hb hK hR (z_78 b) g15 (r := (msN (ix x2))) (msN_ok g15) dX11_near_15 ?_
      obtain ⟨q16, c16, hf⟩ := br_b hf
      refine x_callV (k := 47) (As := [.ref (E.2.2.1 (msN (ix x2)))]) (rest := []) (st1 := [.int q16]) X hR (ctX11_isWord (msN_lt _) c16) ml_X11_160 im_X11_isWord se_X11_isWord in_X11 co_X11_isWord yo_X11_isWord rfl kX11 (z_47 b) (rm_ok (by decide) (by decide)) rfl hl.1 rfl rfl (Nat.le_of_ble_eq_true rfl) dX11_near_16 ⟨Nat.zero_le _, Nat.zero_le _⟩ (fun H locs hR => ?_)
      refine lv_if_eq (tgt := 24) hx hb dX11_near_19 (by decide) (fun q19 => ?_) (fun q19 => ?_)
      · have hf := (br_if hf).1 q19
        exact wX11_near_24 X (fun hf hR hl => ih hf hR hl) (fun hf hR hl => hk30 hf hR hl) hf hR hl
      · have hf := (br_if hf).2 q19
        refine lv_iload_n hx hb dX11_near_22 rfl (lv_at hl 2 rfl) ?_
        refine lv_istore_n (lv' := [(1, .int x2), (0, .ref (eB E + 47)), (2, .int x2)]) hx hb dX11_near_23 rfl hl (by decide) rfl (fun ls hl => ?_)
        exact wX11_near_24 X (fun hf hR hl => ih hf hR hl) (fun hf hR hl => hk30 hf hR hl) hf hR (lv_sub hl [1, 0, 2] rfl)
set_option maxHeartbeats 4000000 in
set_option maxRecDepth 100000 in
theorem wX11_near_70 {r : Int32} {M1 : Mem} (X : CX E p s m args c meth cX11_near 3 (some .boolean) RX11) : ∀ {s0 : Int32} {M : Mem} {H : Heap} {locs : List Loc} {ls : Array Slot}, fX11_near_70 s0 M = some (r, M1) → Rl E (sh_ b) (nn b) s.heap M H locs → lv_has ls 3 [] → W p l e (rm 8 0 0) s m args below meth c H locs 0 0 (MQ below (qq E (some (.int r)) (sh_ b) (nn b) M1) args s 0 0 (fr E)) (F0 m 70 ls [.int s0]) := by
  obtain ⟨hx, hb, hr, hml, hown, hts, hK, hN, hO, hlk, hbs⟩ := id X
  intro s0 M H locs ls hf hR hl
  unfold fX11_near_70 at hf
  cases hf
  exact x_zret hx hb hr hlk hR rfl dX11_near_70
set_option maxHeartbeats 4000000 in
set_option maxRecDepth 100000 in
theorem wX11_near_69 {r : Int32} {M1 : Mem} (X : CX E p s m args c meth cX11_near 3 (some .boolean) RX11) : ∀ {M : Mem} {H : Heap} {locs : List Loc} {ls : Array Slot}, fX11_near_69 M = some (r, M1) → Rl E (sh_ b) (nn b) s.heap M H locs → lv_has ls 3 [] → W p l e (rm 8 0 0) s m args below meth c H locs 0 0 (MQ below (qq E (some (.int r)) (sh_ b) (nn b) M1) args s 0 0 (fr E)) (F0 m 69 ls []) := by
  obtain ⟨hx, hb, hr, hml, hown, hts, hK, hN, hO, hlk, hbs⟩ := id X
  intro M H locs ls hf hR hl
  unfold fX11_near_69 at hf
  refine lv_iconst (v := 0) hx hb dX11_near_69 (by decide) ?_
  exact wX11_near_70 X hf hR hl
set_option maxHeartbeats 4000000 in
set_option maxRecDepth 100000 in
theorem wX11_near_46 {r : Int32} {M1 : Mem} (X : CX E p s m args c meth cX11_near 3 (some .boolean) RX11) : ∀ {s1 : Int32} {M : Mem} {H : Heap} {locs : List Loc} {ls : Array Slot}, fX11_near_46 s1 M = some (r, M1) → Rl E (sh_ b) (nn b) s.heap M H locs → lv_has ls 3 [(0, .ref (eB E + 47))] → W p l e (rm 8 0 0) s m args below meth c H locs 0 0 (MQ below (qq E (some (.int r)) (sh_ b) (nn b) M1) args s 0 0 (fr E)) (F0 m 46 ls [.int s1, .ref (eB E + 47)]) := by
  obtain ⟨hx, hb, hr, hml, hown, hts, hK, hN, hO, hlk, hbs⟩ := id X
  intro s1 M H locs ls hf hR hl
  unfold fX11_near_46 at hf
  obtain ⟨q46, c46, hf⟩ := br_b hf
  refine x_callV (k := 47) (As := [.int s1]) (rest := []) (st1 := [.int q46.1]) X hR (ctX11_passes c46) ml_X11_156 im_X11_passes se_X11_passes in_X11 co_X11_passes yo_X11_passes rfl kX11 (z_47 b) (rm_ok (by decide) (by decide)) rfl hl.1 rfl rfl (Nat.le_of_ble_eq_true rfl) dX11_near_46 ⟨Nat.zero_le _, Nat.zero_le _⟩ (fun H locs hR => ?_)
  refine lv_if_eq (tgt := 69) hx hb dX11_near_49 (by decide) (fun q49 => ?_) (fun q49 => ?_)
  · have hf := (br_if hf).1 q49
    exact wX11_near_69 X hf hR (lv_sub hl [] rfl)
  · have hf := (br_if hf).2 q49
    refine lv_aload_n hx hb dX11_near_52 rfl (lv_at hl 0 rfl) ?_
    refine lv_aload_n hx hb dX11_near_53 rfl (lv_at hl 0 rfl) ?_
    refine lv_bipush (v := 59) hx hb dX11_near_54 (by decide) ?_
    obtain ⟨q56, c56, hf⟩ := br_b hf
    refine x_callV (k := 47) (As := [.int (59 : Int32)]) (rest := [.ref (eB E + 47)]) (st1 := [.int q56, .ref (eB E + 47)]) X hR (ctX11_isSign c56) ml_X11_167 im_X11_isSign se_X11_isSign in_X11 co_X11_isSign yo_X11_isSign rfl kX11 (z_47 b) (rm_ok (by decide) (by decide)) rfl hl.1 rfl rfl (Nat.le_of_ble_eq_true rfl) dX11_near_56 ⟨Nat.zero_le _, Nat.zero_le _⟩ (fun H locs hR => ?_)
    obtain ⟨q59, c59, hf⟩ := br_b hf
    refine x_callV (k := 47) (As := [.int q56]) (rest := []) (st1 := [.int q59.1]) X hR (ctX11_passes c59) ml_X11_156 im_X11_passes se_X11_passes in_X11 co_X11_passes yo_X11_passes rfl kX11 (z_47 b) (rm_ok (by decide) (by decide)) rfl hl.1 rfl rfl (Nat.le_of_ble_eq_true rfl) dX11_near_59 ⟨Nat.zero_le _, Nat.zero_le _⟩ (fun H locs hR => ?_)
    refine lv_if_eq (tgt := 69) hx hb dX11_near_62 (by decide) (fun q62 => ?_) (fun q62 => ?_)
    · have hf := (br_if hf).1 q62
      exact wX11_near_69 X hf hR (lv_sub hl [] rfl)
    · have hf := (br_if hf).2 q62
      refine lv_iconst (v := 1) hx hb dX11_near_65 (by decide) ?_
      refine lv_goto (tgt := 70) hx hb dX11_near_66 (by decide) ?_
      exact wX11_near_70 X hf hR (lv_sub hl [] rfl)
set_option maxHeartbeats 4000000 in
set_option maxRecDepth 100000 in
theorem wX11_near_30 {r : Int32} {M1 : Mem} (X : CX E p s m args c meth cX11_near 3 (some .boolean) RX11) : ∀ {x1 : Int32} {M : Mem} {H : Heap} {locs : List Loc} {ls : Array Slot}, fX11_near_30 x1 M = some (r, M1) → Rl E (sh_ b) (nn b) s.heap M H locs → lv_has ls 3 [(0, .ref (eB E + 47)), (1, .int x1)] → W p l e (rm 8 0 0) s m args below meth c H locs 0 0 (MQ below (qq E (some (.int r)) (sh_ b) (nn b) M1) args s 0 0 (fr E)) (F0 m 30 ls []) := by
  obtain ⟨hx, hb, hr, hml, hown, hts, hK, hN, hO, hlk, hbs⟩ := id X
  intro x1 M H locs ls hf hR hl
  unfold fX11_near_30 at hf
  refine lv_aload_n hx hb dX11_near_30 rfl (lv_at hl 0 rfl) ?_
  refine lv_iload_n hx hb dX11_near_31 rfl (lv_at hl 1 rfl) ?_
  refine x_puti hx hb hown hts hK hR kX11 (z_47 b) (j := 19) (by decide) fl_X11_164 rfl rfl rfl rfl dX11_near_32 (fun H locs hR => ?_)
  obtain ⟨M32, e32⟩ : ∃ y : Mem, y = (sI M 47 19 x1) := ⟨_, rfl⟩
  have hf := nx_at e32 hf
  have hR : Rl E (sh_ b) (nn b) s.heap M32 H locs := by rw [e32]; exact hR
  refine lv_aload_n hx hb dX11_near_35 rfl (lv_at hl 0 rfl) ?_
  refine lv_iload_n hx hb dX11_near_36 rfl (lv_at hl 1 rfl) ?_
  refine lv_iconst (v := -1) hx hb dX11_near_37 (by decide) ?_
  refine lv_icmp_eq (tgt := 45) hx hb dX11_near_38 (by decide) (fun q38 => ?_) (fun q38 => ?_)
  · have hf := (br_if hf).1 q38
    refine lv_iconst (v := 0) hx hb dX11_near_45 (by decide) ?_
    exact wX11_near_46 X hf hR (lv_sub hl [0] rfl)
  · have hf := (br_if hf).2 q38
    refine lv_iconst (v := 1) hx hb dX11_near_41 (by decide) ?_
    refine lv_goto (tgt := 46) hx hb dX11_near_42 (by decide) ?_
    exact wX11_near_46 X hf hR (lv_sub hl [0] rfl)
set_option maxHeartbeats 4000000 in
set_option maxRecDepth 100000 in
theorem wX11_near_0 {r : Int32} {M1 : Mem} (X : CX E p s m args c meth cX11_near 3 (some .boolean) RX11) : ∀ {M : Mem} {H : Heap} {locs : List Loc} {ls : Array Slot}, fX11_near M = some (r, M1) → Rl E (sh_ b) (nn b) s.heap M H locs → lv_has ls 3 [(0, .ref (eB E + 47))] → W p l e (rm 8 0 0) s m args below meth c H locs 0 0 (MQ below (qq E (some (.int r)) (sh_ b) (nn b) M1) args s 0 0 (fr E)) (F0 m 0 ls []) := by
  obtain ⟨hx, hb, hr, hml, hown, hts, hK, hN, hO, hlk, hbs⟩ := id X
  intro M H locs ls hf hR hl
  unfold fX11_near at hf
  refine lv_iconst (v := -1) hx hb dX11_near_0 (by decide) ?_
  refine lv_istore_n (lv' := [(1, .int (-1 : Int32)), (0, .ref (eB E + 47))]) hx hb dX11_near_1 rfl hl (by decide) rfl (fun ls hl => ?_)
  refine lv_iconst (v := 0) hx hb dX11_near_2 (by decide) ?_
  refine lv_istore_n (lv' := [(2, .int (0 : Int32)), (1, .int (-1 : Int32)), (0, .ref (eB E + 47))]) hx hb dX11_near_3 rfl hl (by decide) rfl (fun ls hl => ?_)
  exact wX11_near_4 X (fun hf hR hl => wX11_near_30 X hf hR hl) FU hf hR (lv_sub hl [2, 1, 0] rfl)
theorem ctX11_near {l : Launch} {E : Ge} {b : Bool} {M : Mem} {r : Int32} {M1 : Mem} (h : fX11_near M = some (r, M1)) : CT l E yX11_near cX11_near 3 (some .boolean) 8 0 0 [.ref (eB E + 47)] (some (.int r)) (sh_ b) (nn b) M (sh_ b) (nn b) M1 := by
  refine met_of (by decide) (Nat.le_of_ble_eq_true rfl) ?_
  intro p e s m args below meth c X _ hR ls hl
  exact wX11_near_0 X h hR hl
def fX11_voterRead_127 (M : Mem) : Option (Int32 × Mem) := some ((0 : Int32), M)
def fX11_voterRead_141 (M : Mem) : Option (Int32 × Mem) := nx (sI M 73 (ix (1 : Int32)) ((M.1 73 (ix (1 : Int32))) + (1 : Int32))) (fun M150 => (fX11_isSign M150 (59 : Int32)).bind (fun q155 => (fX11_passes q155 M150).bind (fun q158 => some ((q158.1 &&& 1), q158.2))))
def fX11_voterRead (M : Mem) : Option (Int32 × Mem) := nx (M.1 73 (ix (1 : Int32))) (fun v6 => (fX11_number (0 : Int32) (99 : Int32) M).bind (fun q11 => (if q11.1 = 0 then some ((0 : Int32), q11.2) else (if inb v6 15 = true then nx (sI q11.2 51 (ix v6) (q11.2.1 47 5)) (fun M30 => (fX11_number (0 : Int32) (99 : Int32) M30).bind (fun q35 => (if q35.1 = 0 then some ((0 : Int32), q35.2) else (if inb v6 15 = true then nx (sI q35.2 54 (ix v6) (q35.2.1 47 5)) (fun M54 => (if inb v6 15 = true then nx (sI M54 57 (ix v6) (1 : Int32)) (fun M63 => (if inb v6 15 = true then nx (sI M63 60 (ix v6) (M63.1 47 19)) (fun M75 => (if inb v6 15 = true then nx (sI M75 63 (ix v6) (M75.1 47 20)) (fun M87 => (if inb v6 15 = true then nx (sI M87 66 (ix v6) (M87.1 47 21)) (fun M99 => (fX11_isWord M99 4).bind (fun q103 => (if q103 = 0 then fX11_voterRead_141 M99 else (fX11_passes (1 : Int32) M99).bind (fun q111 => (if q111.1 = 0 then fX11_voterRead_127 (q111.2) else (fX11_number (1 : Int32) (9 : Int32) q111.2).bind (fun q121 => (if q121.1 = 0 then fX11_voterRead_127 (q121.2) else (if inb v6 15 = true then nx (sI q121.2 57 (ix v6) (q121.2.1 47 5)) (fun M140 => fX11_voterRead_141 M140) else none)))))))) else none)) else none)) else none)) else none)) else none)))) else none))))
set_option maxHeartbeats 4000000 in
set_option maxRecDepth 100000 in
theorem wX11_voterRead_127 {r : Int32} {M1 : Mem} (X : CX E p s m args c meth cX11_voterRead 2 (some .boolean) RX11) : ∀ {M : Mem} {H : Heap} {locs : List Loc} {ls : Array Slot}, fX11_voterRead_127 M = some (r, M1) → Rl E (sh_ b) (nn b) s.heap M H locs → lv_has ls 2 [] → W p l e (rm 8 0 0) s m args below meth c H locs 0 0 (MQ below (qq E (some (.int r)) (sh_ b) (nn b) M1) args s 0 0 (fr E)) (F0 m 127 ls []) := by
  obtain ⟨hx, hb, hr, hml, hown, hts, hK, hN, hO, hlk, hbs⟩ := id X
  intro M H locs ls hf hR hl
  unfold fX11_voterRead_127 at hf
  refine lv_iconst (v := 0) hx hb dX11_voterRead_127 (by decide) ?_
  cases hf
  exact x_zret hx hb hr hlk hR (by decide) dX11_voterRead_128
set_option maxHeartbeats 4000000 in
set_option maxRecDepth 100000 in
theorem wX11_voterRead_141 {r : Int32} {M1 : Mem} (X : CX E p s m args c meth cX11_voterRead 2 (some .boolean) RX11) : ∀ {M : Mem} {H : Heap} {locs : List Loc} {ls : Array Slot}, fX11_voterRead_141 M = some (r, M1) → Rl E (sh_ b) (nn b) s.heap M H locs → lv_has ls 2 [(0, .ref (eB E + 47))] → W p l e (rm 8 0 0) s m args below meth c H locs 0 0 (MQ below (qq E (some (.int r)) (sh_ b) (nn b) M1) args s 0 0 (fr E)) (F0 m 141 ls []) := by
  obtain ⟨hx, hb, hr, hml, hown, hts, hK, hN, hO, hlk, hbs⟩ := id X
  intro M H locs ls hf hR hl
  unfold fX11_voterRead_141 at hf
  refine lv_aload_n hx hb dX11_voterRead_141 rfl (lv_at hl 0 rfl) ?_
  refine x_get hx hb hown hts hK hR kX11 (z_47 b) (j := 14) (by decide) fl_X11_39 (v := .ref (eB E + 73)) rfl dX11_voterRead_142 ?_
  refine lv_iconst (v := 1) hx hb dX11_voterRead_145 (by decide) ?_
  refine lv_dup2_11 hx hb dX11_voterRead_146 rfl rfl ?_
  refine x_iald hx hb hK hR (z_73 b) (by decide) dX11_voterRead_147 ?_
  refine lv_iconst (v := 1) hx hb dX11_voterRead_148 (by decide) ?_
  refine lv_iadd hx hb dX11_voterRead_149 ?_
  refine x_iast hx hb hK hR (z_73 b) (by decide) dX11_voterRead_150 (fun H locs hR => ?_)
  obtain ⟨M150, e150⟩ : ∃ y : Mem, y = (sI M 73 (ix (1 : Int32)) ((M.1 73 (ix (1 : Int32))) + (1 : Int32))) := ⟨_, rfl⟩
  have hf := nx_at e150 hf
  have hR : Rl E (sh_ b) (nn b) s.heap M150 H locs := by rw [e150]; exact hR
  refine lv_aload_n hx hb dX11_voterRead_151 rfl (lv_at hl 0 rfl) ?_
  refine lv_aload_n hx hb dX11_voterRead_152 rfl (lv_at hl 0 rfl) ?_
  refine lv_bipush (v := 59) hx hb dX11_voterRead_153 (by decide) ?_
  obtain ⟨q155, c155, hf⟩ := br_b hf
  refine x_callV (k := 47) (As := [.int (59 : Int32)]) (rest := [.ref (eB E + 47)]) (st1 := [.int q155, .ref (eB E + 47)]) X hR (ctX11_isSign c155) ml_X11_167 im_X11_isSign se_X11_isSign in_X11 co_X11_isSign yo_X11_isSign rfl kX11 (z_47 b) (rm_ok (by decide) (by decide)) rfl hl.1 rfl rfl (Nat.le_of_ble_eq_true rfl) dX11_voterRead_155 ⟨Nat.zero_le _, Nat.zero_le _⟩ (fun H locs hR => ?_)
  obtain ⟨q158, c158, hf⟩ := br_b hf
  refine x_callV (k := 47) (As := [.int q155]) (rest := []) (st1 := [.int q158.1]) X hR (ctX11_passes c158) ml_X11_156 im_X11_passes se_X11_passes in_X11 co_X11_passes yo_X11_passes rfl kX11 (z_47 b) (rm_ok (by decide) (by decide)) rfl hl.1 rfl rfl (Nat.le_of_ble_eq_true rfl) dX11_voterRead_158 ⟨Nat.zero_le _, Nat.zero_le _⟩ (fun H locs hR => ?_)
  cases hf
  exact x_zret hx hb hr hlk hR rfl dX11_voterRead_161
set_option maxHeartbeats 4000000 in
set_option maxRecDepth 100000 in
theorem wX11_voterRead_0 {r : Int32} {M1 : Mem} (X : CX E p s m args c meth cX11_voterRead 2 (some .boolean) RX11) : ∀ {M : Mem} {H : Heap} {locs : List Loc} {ls : Array Slot}, fX11_voterRead M = some (r, M1) → Rl E (sh_ b) (nn b) s.heap M H locs → lv_has ls 2 [(0, .ref (eB E + 47))] → W p l e (rm 8 0 0) s m args below meth c H locs 0 0 (MQ below (qq E (some (.int r)) (sh_ b) (nn b) M1) args s 0 0 (fr E)) (F0 m 0 ls []) := by
  obtain ⟨hx, hb, hr, hml, hown, hts, hK, hN, hO, hlk, hbs⟩ := id X
  intro M H locs ls hf hR hl
  unfold fX11_voterRead at hf
  refine lv_aload_n hx hb dX11_voterRead_0 rfl (lv_at hl 0 rfl) ?_
  refine x_get hx hb hown hts hK hR kX11 (z_47 b) (j := 14) (by decide) fl_X11_39 (v := .ref (eB E + 73)) rfl dX11_voterRead_1 ?_
  refine lv_iconst (v := 1) hx hb dX11_voterRead_4 (by decide) ?_
  refine x_iald hx hb hK hR (z_73 b) (by decide) dX11_voterRead_5 ?_
  refine lv_topi (fun v6 e6 => ?_)
  have hf := nx_at e6 hf
  refine lv_istore_n (lv' := [(1, .int v6), (0, .ref (eB E + 47))]) hx hb dX11_voterRead_6 rfl hl (by decide) rfl (fun ls hl => ?_)
  refine lv_aload_n hx hb dX11_voterRead_7 rfl (lv_at hl 1 rfl) ?_
  refine lv_iconst (v := 0) hx hb dX11_voterRead_8 (by decide) ?_
  refine lv_bipush (v := 99) hx hb dX11_voterRead_9 (by decide) ?_
  obtain ⟨q11, c11, hf⟩ := br_b hf
  refine x_callV (k := 47) (As := [.int (0 : Int32), .int (99 : Int32)]) (rest := []) (st1 := [.int q11.1]) X hR (ctX11_number c11) ml_X11_170 im_X11_number se_X11_number in_X11 co_X11_number yo_X11_number rfl kX11 (z_47 b) (rm_ok (by decide) (by decide)) rfl hl.1 rfl rfl (Nat.le_of_ble_eq_true rfl) dX11_voterRead_11 ⟨Nat.zero_le _, Nat.zero_le _⟩ (fun H locs hR => ?_)
  refine lv_if_ne (tgt := 19) hx hb dX11_voterRead_14 (by decide) (fun q14 => ?_) (fun q14 => ?_)
  · have hf := (br_if hf).2 q14
    refine lv_aload_n hx hb dX11_voterRead_19 rfl (lv_at hl 1 rfl) ?_
    refine x_get hx hb hown hts hK hR kX11 (z_47 b) (j := 6) (by decide) fl_X11_15 (v := .ref (eB E + 49)) rfl dX11_voterRead_20 ?_
    refine lv_iconst (v := 1) hx hb dX11_voterRead_23 (by decide) ?_
    refine x_aald5 hx hb hK hR (z_49 b) (by decide) (r := 51) rfl dX11_voterRead_24 ?_
    refine lv_iload_n hx hb dX11_voterRead_25 rfl (lv_at hl 0 rfl) ?_
    refine lv_aload_n hx hb dX11_voterRead_26 rfl (lv_at hl 1 rfl) ?_
    refine x_get hx hb hown hts hK hR kX11 (z_47 b) (j := 5) (by decide) fl_X11_153 (v := .int (q11.2.1 47 5)) rfl dX11_voterRead_27 ?_
    obtain ⟨g30, hf⟩ := br_g hf
    refine x_iast hx hb hK hR (z_51 b) g30 dX11_voterRead_30 (fun H locs hR => ?_)
    obtain ⟨M30, e30⟩ : ∃ y : Mem, y = (sI q11.2 51 (ix v6) (q11.2.1 47 5)) := ⟨_, rfl⟩
    have hf := nx_at e30 hf
    have hR : Rl E (sh_ b) (nn b) s.heap M30 H locs := by rw [e30]; exact hR
    refine lv_aload_n hx hb dX11_voterRead_31 rfl (lv_at hl 1 rfl) ?_
    refine lv_iconst (v := 0) hx hb dX11_voterRead_32 (by decide) ?_
    refine lv_bipush (v := 99) hx hb dX11_voterRead_33 (by decide) ?_
    obtain ⟨q35, c35, hf⟩ := br_b hf
    refine x_callV (k := 47) (As := [.int (0 : Int32), .int (99 : Int32)]) (rest := []) (st1 := [.int q35.1]) X hR (ctX11_number c35) ml_X11_170 im_X11_number se_X11_number in_X11 co_X11_number yo_X11_number rfl kX11 (z_47 b) (rm_ok (by decide) (by decide)) rfl hl.1 rfl rfl (Nat.le_of_ble_eq_true rfl) dX11_voterRead_35 ⟨Nat.zero_le _, Nat.zero_le _⟩ (fun H locs hR => ?_)
    refine lv_if_ne (tgt := 43) hx hb dX11_voterRead_38 (by decide) (fun q38 => ?_) (fun q38 => ?_)
    · have hf := (br_if hf).2 q38
      refine lv_aload_n hx hb dX11_voterRead_43 rfl (lv_at hl 1 rfl) ?_
      refine x_get hx hb hown hts hK hR kX11 (z_47 b) (j := 7) (by decide) fl_X11_18 (v := .ref (eB E + 52)) rfl dX11_voterRead_44 ?_
      refine lv_iconst (v := 1) hx hb dX11_voterRead_47 (by decide) ?_
      refine x_aald5 hx hb hK hR (z_52 b) (by decide) (r := 54) rfl dX11_voterRead_48 ?_
      refine lv_iload_n hx hb dX11_voterRead_49 rfl (lv_at hl 0 rfl) ?_
      refine lv_aload_n hx hb dX11_voterRead_50 rfl (lv_at hl 1 rfl) ?_
      refine x_get hx hb hown hts hK hR kX11 (z_47 b) (j := 5) (by decide) fl_X11_153 (v := .int (q35.2.1 47 5)) rfl dX11_voterRead_51 ?_
      obtain ⟨g54, hf⟩ := br_g hf
      refine x_iast hx hb hK hR (z_54 b) g54 dX11_voterRead_54 (fun H locs hR => ?_)
      obtain ⟨M54, e54⟩ : ∃ y : Mem, y = (sI q35.2 54 (ix v6) (q35.2.1 47 5)) := ⟨_, rfl⟩
      have hf := nx_at e54 hf
      have hR : Rl E (sh_ b) (nn b) s.heap M54 H locs := by rw [e54]; exact hR
      refine lv_aload_n hx hb dX11_voterRead_55 rfl (lv_at hl 1 rfl) ?_
      refine x_get hx hb hown hts hK hR kX11 (z_47 b) (j := 8) (by decide) fl_X11_21 (v := .ref (eB E + 55)) rfl dX11_voterRead_56 ?_
      refine lv_iconst (v := 1) hx hb dX11_voterRead_59 (by decide) ?_
      refine x_aald5 hx hb hK hR (z_55 b) (by decide) (r := 57) rfl dX11_voterRead_60 ?_
      refine lv_iload_n hx hb dX11_voterRead_61 rfl (lv_at hl 0 rfl) ?_
      refine lv_iconst (v := 1) hx hb dX11_voterRead_62 (by decide) ?_
      obtain ⟨g63, hf⟩ := br_g hf
      refine x_iast hx hb hK hR (z_57 b) g63 dX11_voterRead_63 (fun H locs hR => ?_)
      obtain ⟨M63, e63⟩ : ∃ y : Mem, y = (sI M54 57 (ix v6) (1 : Int32)) := ⟨_, rfl⟩
      have hf := nx_at e63 hf
      have hR : Rl E (sh_ b) (nn b) s.heap M63 H locs := by rw [e63]; exact hR
      refine lv_aload_n hx hb dX11_voterRead_64 rfl (lv_at hl 1 rfl) ?_
      refine x_get hx hb hown hts hK hR kX11 (z_47 b) (j := 9) (by decide) fl_X11_24 (v := .ref (eB E + 58)) rfl dX11_voterRead_65 ?_
      refine lv_iconst (v := 1) hx hb dX11_voterRead_68 (by decide) ?_
      refine x_aald5 hx hb hK hR (z_58 b) (by decide) (r := 60) rfl dX11_voterRead_69 ?_
      refine lv_iload_n hx hb dX11_voterRead_70 rfl (lv_at hl 0 rfl) ?_
      refine lv_aload_n hx hb dX11_voterRead_71 rfl (lv_at hl 1 rfl) ?_
      refine x_get hx hb hown hts hK hR kX11 (z_47 b) (j := 19) (by decide) fl_X11_164 (v := .int (M63.1 47 19)) rfl dX11_voterRead_72 ?_
      obtain ⟨g75, hf⟩ := br_g hf
      refine x_iast hx hb hK hR (z_60 b) g75 dX11_voterRead_75 (fun H locs hR => ?_)
      obtain ⟨M75, e75⟩ : ∃ y : Mem, y = (sI M63 60 (ix v6) (M63.1 47 19)) := ⟨_, rfl⟩
      have hf := nx_at e75 hf
      have hR : Rl E (sh_ b) (nn b) s.heap M75 H locs := by rw [e75]; exact hR
      refine lv_aload_n hx hb dX11_voterRead_76 rfl (lv_at hl 1 rfl) ?_
      refine x_get hx hb hown hts hK hR kX11 (z_47 b) (j := 10) (by decide) fl_X11_27 (v := .ref (eB E + 61)) rfl dX11_voterRead_77 ?_
      refine lv_iconst (v := 1) hx hb dX11_voterRead_80 (by decide) ?_
      refine x_aald5 hx hb hK hR (z_61 b) (by decide) (r := 63) rfl dX11_voterRead_81 ?_
      refine lv_iload_n hx hb dX11_voterRead_82 rfl (lv_at hl 0 rfl) ?_
      refine lv_aload_n hx hb dX11_voterRead_83 rfl (lv_at hl 1 rfl) ?_
      refine x_get hx hb hown hts hK hR kX11 (z_47 b) (j := 20) (by decide) fl_X11_174 (v := .int (M75.1 47 20)) rfl dX11_voterRead_84 ?_
      obtain ⟨g87, hf⟩ := br_g hf
      refine x_iast hx hb hK hR (z_63 b) g87 dX11_voterRead_87 (fun H locs hR => ?_)
      obtain ⟨M87, e87⟩ : ∃ y : Mem, y = (sI M75 63 (ix v6) (M75.1 47 20)) := ⟨_, rfl⟩
      have hf := nx_at e87 hf
      have hR : Rl E (sh_ b) (nn b) s.heap M87 H locs := by rw [e87]; exact hR
      refine lv_aload_n hx hb dX11_voterRead_88 rfl (lv_at hl 1 rfl) ?_
      refine x_get hx hb hown hts hK hR kX11 (z_47 b) (j := 11) (by decide) fl_X11_30 (v := .ref (eB E + 64)) rfl dX11_voterRead_89 ?_
      refine lv_iconst (v := 1) hx hb dX11_voterRead_92 (by decide) ?_
      refine x_aald5 hx hb hK hR (z_64 b) (by decide) (r := 66) rfl dX11_voterRead_93 ?_
      refine lv_iload_n hx hb dX11_voterRead_94 rfl (lv_at hl 0 rfl) ?_
      refine lv_aload_n hx hb dX11_voterRead_95 rfl (lv_at hl 1 rfl) ?_
      refine x_get hx hb hown hts hK hR kX11 (z_47 b) (j := 21) (by decide) fl_X11_177 (v := .int (M87.1 47 21)) rfl dX11_voterRead_96 ?_
      obtain ⟨g99, hf⟩ := br_g hf
      refine x_iast hx hb hK hR (z_66 b) g99 dX11_voterRead_99 (fun H locs hR => ?_)
      obtain ⟨M99, e99⟩ : ∃ y : Mem, y = (sI M87 66 (ix v6) (M87.1 47 21)) := ⟨_, rfl⟩
      have hf := nx_at e99 hf
      have hR : Rl E (sh_ b) (nn b) s.heap M99 H locs := by rw [e99]; exact hR
      refine lv_aload_n hx hb dX11_voterRead_100 rfl (lv_at hl 1 rfl) ?_
      refine va_ldcS hx hb hown (hN.1 4 (by decide)) dX11_voterRead_101 ?_
      obtain ⟨q103, c103, hf⟩ := br_b hf
      refine x_callV (k := 47) (As := [.ref (E.2.2.1 4)]) (rest := []) (st1 := [.int q103]) X hR (ctX11_isWord (by decide : 4 < 26) c103) ml_X11_160 im_X11_isWord se_X11_isWord in_X11 co_X11_isWord yo_X11_isWord rfl kX11 (z_47 b) (rm_ok (by decide) (by decide)) rfl hl.1 rfl rfl (Nat.le_of_ble_eq_true rfl) dX11_voterRead_103 ⟨Nat.zero_le _, Nat.zero_le _⟩ (fun H locs hR => ?_)
      refine lv_if_eq (tgt := 141) hx hb dX11_voterRead_106 (by decide) (fun q106 => ?_) (fun q106 => ?_)
      · have hf := (br_if hf).1 q106
        exact wX11_voterRead_141 X hf hR (lv_sub hl [1] rfl)
      · have hf := (br_if hf).2 q106
        refine lv_aload_n hx hb dX11_voterRead_109 rfl (lv_at hl 1 rfl) ?_
        refine lv_iconst (v := 1) hx hb dX11_voterRead_110 (by decide) ?_
        obtain ⟨q111, c111, hf⟩ := br_b hf
        refine x_callV (k := 47) (As := [.int (1 : Int32)]) (rest := []) (st1 := [.int q111.1]) X hR (ctX11_passes c111) ml_X11_156 im_X11_passes se_X11_passes in_X11 co_X11_passes yo_X11_passes rfl kX11 (z_47 b) (rm_ok (by decide) (by decide)) rfl hl.1 rfl rfl (Nat.le_of_ble_eq_true rfl) dX11_voterRead_111 ⟨Nat.zero_le _, Nat.zero_le _⟩ (fun H locs hR => ?_)
        refine lv_if_eq (tgt := 127) hx hb dX11_voterRead_114 (by decide) (fun q114 => ?_) (fun q114 => ?_)
        · have hf := (br_if hf).1 q114
          exact wX11_voterRead_127 X hf hR (lv_sub hl [] rfl)
        · have hf := (br_if hf).2 q114
          refine lv_aload_n hx hb dX11_voterRead_117 rfl (lv_at hl 1 rfl) ?_
          refine lv_iconst (v := 1) hx hb dX11_voterRead_118 (by decide) ?_
          refine lv_bipush (v := 9) hx hb dX11_voterRead_119 (by decide) ?_
          obtain ⟨q121, c121, hf⟩ := br_b hf
          refine x_callV (k := 47) (As := [.int (1 : Int32), .int (9 : Int32)]) (rest := []) (st1 := [.int q121.1]) X hR (ctX11_number c121) ml_X11_170 im_X11_number se_X11_number in_X11 co_X11_number yo_X11_number rfl kX11 (z_47 b) (rm_ok (by decide) (by decide)) rfl hl.1 rfl rfl (Nat.le_of_ble_eq_true rfl) dX11_voterRead_121 ⟨Nat.zero_le _, Nat.zero_le _⟩ (fun H locs hR => ?_)
          refine lv_if_ne (tgt := 129) hx hb dX11_voterRead_124 (by decide) (fun q124 => ?_) (fun q124 => ?_)
          · have hf := (br_if hf).2 q124
            refine lv_aload_n hx hb dX11_voterRead_129 rfl (lv_at hl 1 rfl) ?_
            refine x_get hx hb hown hts hK hR kX11 (z_47 b) (j := 8) (by decide) fl_X11_21 (v := .ref (eB E + 55)) rfl dX11_voterRead_130 ?_
            refine lv_iconst (v := 1) hx hb dX11_voterRead_133 (by decide) ?_
            refine x_aald5 hx hb hK hR (z_55 b) (by decide) (r := 57) rfl dX11_voterRead_134 ?_
            refine lv_iload_n hx hb dX11_voterRead_135 rfl (lv_at hl 0 rfl) ?_
            refine lv_aload_n hx hb dX11_voterRead_136 rfl (lv_at hl 1 rfl) ?_
            refine x_get hx hb hown hts hK hR kX11 (z_47 b) (j := 5) (by decide) fl_X11_153 (v := .int (q121.2.1 47 5)) rfl dX11_voterRead_137 ?_
            obtain ⟨g140, hf⟩ := br_g hf
            refine x_iast hx hb hK hR (z_57 b) g140 dX11_voterRead_140 (fun H locs hR => ?_)
            obtain ⟨M140, e140⟩ : ∃ y : Mem, y = (sI q121.2 57 (ix v6) (q121.2.1 47 5)) := ⟨_, rfl⟩
            have hf := nx_at e140 hf
            have hR : Rl E (sh_ b) (nn b) s.heap M140 H locs := by rw [e140]; exact hR
            exact wX11_voterRead_141 X hf hR (lv_sub hl [1] rfl)
          · have hf := (br_if hf).1 q124
            exact wX11_voterRead_127 X hf hR (lv_sub hl [] rfl)
    · have hf := (br_if hf).1 q38
      refine lv_iconst (v := 0) hx hb dX11_voterRead_41 (by decide) ?_
      cases hf
      exact x_zret hx hb hr hlk hR (by decide) dX11_voterRead_42
  · have hf := (br_if hf).1 q14
    refine lv_iconst (v := 0) hx hb dX11_voterRead_17 (by decide) ?_
    cases hf
    exact x_zret hx hb hr hlk hR (by decide) dX11_voterRead_18
theorem ctX11_voterRead {l : Launch} {E : Ge} {b : Bool} {M : Mem} {r : Int32} {M1 : Mem} (h : fX11_voterRead M = some (r, M1)) : CT l E yX11_voterRead cX11_voterRead 2 (some .boolean) 8 0 0 [.ref (eB E + 47)] (some (.int r)) (sh_ b) (nn b) M (sh_ b) (nn b) M1 := by
  refine met_of (by decide) (Nat.le_of_ble_eq_true rfl) ?_
  intro p e s m args below meth c X _ hR ls hl
  exact wX11_voterRead_0 X h hR hl
def fX11_placeRead (M : Mem) : Option (Int32 × Mem) := nx (M.1 74 (ix (1 : Int32))) (fun v6 => (fX11_number (0 : Int32) (99 : Int32) M).bind (fun q11 => (if q11.1 = 0 then some ((0 : Int32), q11.2) else (if inb v6 20 = true then nx (sI q11.2 69 (ix v6) (q11.2.1 47 5)) (fun M30 => (fX11_number (0 : Int32) (99 : Int32) M30).bind (fun q35 => (if q35.1 = 0 then some ((0 : Int32), q35.2) else (if inb v6 20 = true then nx (sI q35.2 72 (ix v6) (q35.2.1 47 5)) (fun M54 => nx (sI M54 74 (ix (1 : Int32)) ((M54.1 74 (ix (1 : Int32))) + (1 : Int32))) (fun M64 => (fX11_isSign M64 (59 : Int32)).bind (fun q69 => (fX11_passes q69 M64).bind (fun q72 => some ((q72.1 &&& 1), q72.2))))) else none)))) else none))))
set_option maxHeartbeats 4000000 in
set_option maxRecDepth 100000 in
theorem wX11_placeRead_0 {r : Int32} {M1 : Mem} (X : CX E p s m args c meth cX11_placeRead 2 (some .boolean) RX11) : ∀ {M : Mem} {H : Heap} {locs : List Loc} {ls : Array Slot}, fX11_placeRead M = some (r, M1) → Rl E (sh_ b) (nn b) s.heap M H locs → lv_has ls 2 [(0, .ref (eB E + 47))] → W p l e (rm 5 0 0) s m args below meth c H locs 0 0 (MQ below (qq E (some (.int r)) (sh_ b) (nn b) M1) args s 0 0 (fr E)) (F0 m 0 ls []) := by
  obtain ⟨hx, hb, hr, hml, hown, hts, hK, hN, hO, hlk, hbs⟩ := id X
  intro M H locs ls hf hR hl
  unfold fX11_placeRead at hf
  refine lv_aload_n hx hb dX11_placeRead_0 rfl (lv_at hl 0 rfl) ?_
  refine x_get hx hb hown hts hK hR kX11 (z_47 b) (j := 15) (by decide) fl_X11_43 (v := .ref (eB E + 74)) rfl dX11_placeRead_1 ?_
  refine lv_iconst (v := 1) hx hb dX11_placeRead_4 (by decide) ?_
  refine x_iald hx hb hK hR (z_74 b) (by decide) dX11_placeRead_5 ?_
  refine lv_topi (fun v6 e6 => ?_)
  have hf := nx_at e6 hf
  refine lv_istore_n (lv' := [(1, .int v6), (0, .ref (eB E + 47))]) hx hb dX11_placeRead_6 rfl hl (by decide) rfl (fun ls hl => ?_)
  refine lv_aload_n hx hb dX11_placeRead_7 rfl (lv_at hl 1 rfl) ?_
  refine lv_iconst (v := 0) hx hb dX11_placeRead_8 (by decide) ?_
  refine lv_bipush (v := 99) hx hb dX11_placeRead_9 (by decide) ?_
  obtain ⟨q11, c11, hf⟩ := br_b hf
  refine x_callV (k := 47) (As := [.int (0 : Int32), .int (99 : Int32)]) (rest := []) (st1 := [.int q11.1]) X hR (ctX11_number c11) ml_X11_170 im_X11_number se_X11_number in_X11 co_X11_number yo_X11_number rfl kX11 (z_47 b) (rm_ok (by decide) (by decide)) rfl hl.1 rfl rfl (Nat.le_of_ble_eq_true rfl) dX11_placeRead_11 ⟨Nat.zero_le _, Nat.zero_le _⟩ (fun H locs hR => ?_)
  refine lv_if_ne (tgt := 19) hx hb dX11_placeRead_14 (by decide) (fun q14 => ?_) (fun q14 => ?_)
  · have hf := (br_if hf).2 q14
    refine lv_aload_n hx hb dX11_placeRead_19 rfl (lv_at hl 1 rfl) ?_
    refine x_get hx hb hown hts hK hR kX11 (z_47 b) (j := 12) (by decide) fl_X11_33 (v := .ref (eB E + 67)) rfl dX11_placeRead_20 ?_
    refine lv_iconst (v := 1) hx hb dX11_placeRead_23 (by decide) ?_
    refine x_aald5 hx hb hK hR (z_67 b) (by decide) (r := 69) rfl dX11_placeRead_24 ?_
    refine lv_iload_n hx hb dX11_placeRead_25 rfl (lv_at hl 0 rfl) ?_
    refine lv_aload_n hx hb dX11_placeRead_26 rfl (lv_at hl 1 rfl) ?_
    refine x_get hx hb hown hts hK hR kX11 (z_47 b) (j := 5) (by decide) fl_X11_153 (v := .int (q11.2.1 47 5)) rfl dX11_placeRead_27 ?_
    obtain ⟨g30, hf⟩ := br_g hf
    refine x_iast hx hb hK hR (z_69 b) g30 dX11_placeRead_30 (fun H locs hR => ?_)
    obtain ⟨M30, e30⟩ : ∃ y : Mem, y = (sI q11.2 69 (ix v6) (q11.2.1 47 5)) := ⟨_, rfl⟩
    have hf := nx_at e30 hf
    have hR : Rl E (sh_ b) (nn b) s.heap M30 H locs := by rw [e30]; exact hR
    refine lv_aload_n hx hb dX11_placeRead_31 rfl (lv_at hl 1 rfl) ?_
    refine lv_iconst (v := 0) hx hb dX11_placeRead_32 (by decide) ?_
    refine lv_bipush (v := 99) hx hb dX11_placeRead_33 (by decide) ?_
    obtain ⟨q35, c35, hf⟩ := br_b hf
    refine x_callV (k := 47) (As := [.int (0 : Int32), .int (99 : Int32)]) (rest := []) (st1 := [.int q35.1]) X hR (ctX11_number c35) ml_X11_170 im_X11_number se_X11_number in_X11 co_X11_number yo_X11_number rfl kX11 (z_47 b) (rm_ok (by decide) (by decide)) rfl hl.1 rfl rfl (Nat.le_of_ble_eq_true rfl) dX11_placeRead_35 ⟨Nat.zero_le _, Nat.zero_le _⟩ (fun H locs hR => ?_)
    refine lv_if_ne (tgt := 43) hx hb dX11_placeRead_38 (by decide) (fun q38 => ?_) (fun q38 => ?_)
    · have hf := (br_if hf).2 q38
      refine lv_aload_n hx hb dX11_placeRead_43 rfl (lv_at hl 1 rfl) ?_
      refine x_get hx hb hown hts hK hR kX11 (z_47 b) (j := 13) (by decide) fl_X11_36 (v := .ref (eB E + 70)) rfl dX11_placeRead_44 ?_
      refine lv_iconst (v := 1) hx hb dX11_placeRead_47 (by decide) ?_
      refine x_aald5 hx hb hK hR (z_70 b) (by decide) (r := 72) rfl dX11_placeRead_48 ?_
      refine lv_iload_n hx hb dX11_placeRead_49 rfl (lv_at hl 0 rfl) ?_
      refine lv_aload_n hx hb dX11_placeRead_50 rfl (lv_at hl 1 rfl) ?_
      refine x_get hx hb hown hts hK hR kX11 (z_47 b) (j := 5) (by decide) fl_X11_153 (v := .int (q35.2.1 47 5)) rfl dX11_placeRead_51 ?_
      obtain ⟨g54, hf⟩ := br_g hf
      refine x_iast hx hb hK hR (z_72 b) g54 dX11_placeRead_54 (fun H locs hR => ?_)
      obtain ⟨M54, e54⟩ : ∃ y : Mem, y = (sI q35.2 72 (ix v6) (q35.2.1 47 5)) := ⟨_, rfl⟩
      have hf := nx_at e54 hf
      have hR : Rl E (sh_ b) (nn b) s.heap M54 H locs := by rw [e54]; exact hR
      refine lv_aload_n hx hb dX11_placeRead_55 rfl (lv_at hl 1 rfl) ?_
      refine x_get hx hb hown hts hK hR kX11 (z_47 b) (j := 15) (by decide) fl_X11_43 (v := .ref (eB E + 74)) rfl dX11_placeRead_56 ?_
      refine lv_iconst (v := 1) hx hb dX11_placeRead_59 (by decide) ?_
      refine lv_dup2_11 hx hb dX11_placeRead_60 rfl rfl ?_
      refine x_iald hx hb hK hR (z_74 b) (by decide) dX11_placeRead_61 ?_
      refine lv_iconst (v := 1) hx hb dX11_placeRead_62 (by decide) ?_
      refine lv_iadd hx hb dX11_placeRead_63 ?_
      refine x_iast hx hb hK hR (z_74 b) (by decide) dX11_placeRead_64 (fun H locs hR => ?_)
      obtain ⟨M64, e64⟩ : ∃ y : Mem, y = (sI M54 74 (ix (1 : Int32)) ((M54.1 74 (ix (1 : Int32))) + (1 : Int32))) := ⟨_, rfl⟩
      have hf := nx_at e64 hf
      have hR : Rl E (sh_ b) (nn b) s.heap M64 H locs := by rw [e64]; exact hR
      refine lv_aload_n hx hb dX11_placeRead_65 rfl (lv_at hl 1 rfl) ?_
      refine lv_aload_n hx hb dX11_placeRead_66 rfl (lv_at hl 1 rfl) ?_
      refine lv_bipush (v := 59) hx hb dX11_placeRead_67 (by decide) ?_
      obtain ⟨q69, c69, hf⟩ := br_b hf
      refine x_callV (k := 47) (As := [.int (59 : Int32)]) (rest := [.ref (eB E + 47)]) (st1 := [.int q69, .ref (eB E + 47)]) X hR (ctX11_isSign c69) ml_X11_167 im_X11_isSign se_X11_isSign in_X11 co_X11_isSign yo_X11_isSign rfl kX11 (z_47 b) (rm_ok (by decide) (by decide)) rfl hl.1 rfl rfl (Nat.le_of_ble_eq_true rfl) dX11_placeRead_69 ⟨Nat.zero_le _, Nat.zero_le _⟩ (fun H locs hR => ?_)
      obtain ⟨q72, c72, hf⟩ := br_b hf
      refine x_callV (k := 47) (As := [.int q69]) (rest := []) (st1 := [.int q72.1]) X hR (ctX11_passes c72) ml_X11_156 im_X11_passes se_X11_passes in_X11 co_X11_passes yo_X11_passes rfl kX11 (z_47 b) (rm_ok (by decide) (by decide)) rfl hl.1 rfl rfl (Nat.le_of_ble_eq_true rfl) dX11_placeRead_72 ⟨Nat.zero_le _, Nat.zero_le _⟩ (fun H locs hR => ?_)
      cases hf
      exact x_zret hx hb hr hlk hR rfl dX11_placeRead_75
    · have hf := (br_if hf).1 q38
      refine lv_iconst (v := 0) hx hb dX11_placeRead_41 (by decide) ?_
      cases hf
      exact x_zret hx hb hr hlk hR (by decide) dX11_placeRead_42
  · have hf := (br_if hf).1 q14
    refine lv_iconst (v := 0) hx hb dX11_placeRead_17 (by decide) ?_
    cases hf
    exact x_zret hx hb hr hlk hR (by decide) dX11_placeRead_18
theorem ctX11_placeRead {l : Launch} {E : Ge} {b : Bool} {M : Mem} {r : Int32} {M1 : Mem} (h : fX11_placeRead M = some (r, M1)) : CT l E yX11_placeRead cX11_placeRead 2 (some .boolean) 5 0 0 [.ref (eB E + 47)] (some (.int r)) (sh_ b) (nn b) M (sh_ b) (nn b) M1 := by
  refine met_of (by decide) (Nat.le_of_ble_eq_true rfl) ?_
  intro p e s m args below meth c X _ hR ls hl
  exact wX11_placeRead_0 X h hR hl
def fX11_winRead_40 (s0 : Int32) (M : Mem) : Option (Int32 × Mem) := some ((s0 &&& 1), M)
def fX11_winRead_39 (M : Mem) : Option (Int32 × Mem) := fX11_winRead_40 (0 : Int32) M
def fX11_winRead_101 (M : Mem) : Option (Int32 × Mem) := some ((0 : Int32), M)
def fX11_winRead_156 (M : Mem) : Option (Int32 × Mem) := some ((0 : Int32), M)
def fX11_winRead_85 (s1 : Int32) (M : Mem) : Option (Int32 × Mem) := (fX11_passes s1 M).bind (fun q85 => (if q85.1 = 0 then fX11_winRead_101 (q85.2) else (fX11_number (1 : Int32) (99 : Int32) q85.2).bind (fun q95 => (if q95.1 = 0 then fX11_winRead_101 (q95.2) else nx (sI q95.2 76 (ix (1 : Int32)) (q95.2.1 47 5)) (fun M112 => (fX11_isSign M112 (47 : Int32)).bind (fun q117 => (fX11_passes q117 M112).bind (fun q120 => (if q120.1 = 0 then fX11_winRead_156 (q120.2) else (fX11_number (imax (1 : Int32) (q120.2.1 76 (ix (1 : Int32)))) (imin (99 : Int32) ((2 : Int32) * (q120.2.1 76 (ix (1 : Int32))))) q120.2).bind (fun q150 => (if q150.1 = 0 then fX11_winRead_156 (q150.2) else nx (sI q150.2 77 (ix (1 : Int32)) (q150.2.1 47 5)) (fun M167 => (fX11_isSign M167 (59 : Int32)).bind (fun q172 => (fX11_passes q172 M167).bind (fun q175 => some ((q175.1 &&& 1), q175.2))))))))))))))
def fX11_winRead_80 (M : Mem) : Option (Int32 × Mem) := fX11_winRead_85 (1 : Int32) M
def fX11_winRead_60 (s1 : Int32) (s2 : Int32) (M : Mem) : Option (Int32 × Mem) := (if inb s1 2 = true then nx (sI M 75 (ix s1) s2) (fun M60 => (fX11_isWord M60 6).bind (fun q65 => (if q65 = 0 then (fX11_isWord M60 7).bind (fun q74 => (if q74 = 0 then fX11_winRead_85 (0 : Int32) M60 else fX11_winRead_80 M60)) else fX11_winRead_80 M60))) else none)
def fX11_winRead (M : Mem) : Option (Int32 × Mem) := nx (sI M 47 22 (1 : Int32)) (fun M2 => (fX11_isWord M2 5).bind (fun q8 => (if q8 = 0 then (fX11_isWord M2 6).bind (fun q49 => (if q49 = 0 then fX11_winRead_60 (1 : Int32) (2 : Int32) M2 else fX11_winRead_60 (1 : Int32) (1 : Int32) M2)) else (fX11_passes (1 : Int32) M2).bind (fun q16 => (if q16.1 = 0 then fX11_winRead_39 (q16.2) else (fX11_isSign q16.2 (59 : Int32)).bind (fun q26 => (fX11_passes q26 q16.2).bind (fun q29 => (if q29.1 = 0 then fX11_winRead_39 (q29.2) else fX11_winRead_40 (1 : Int32) (q29.2)))))))))
set_option maxHeartbeats 4000000 in
set_option maxRecDepth 100000 in
theorem wX11_winRead_40 {r : Int32} {M1 : Mem} (X : CX E p s m args c meth cX11_winRead 1 (some .boolean) RX11) : ∀ {s0 : Int32} {M : Mem} {H : Heap} {locs : List Loc} {ls : Array Slot}, fX11_winRead_40 s0 M = some (r, M1) → Rl E (sh_ b) (nn b) s.heap M H locs → lv_has ls 1 [] → W p l e (rm 8 0 0) s m args below meth c H locs 0 0 (MQ below (qq E (some (.int r)) (sh_ b) (nn b) M1) args s 0 0 (fr E)) (F0 m 40 ls [.int s0]) := by
  obtain ⟨hx, hb, hr, hml, hown, hts, hK, hN, hO, hlk, hbs⟩ := id X
  intro s0 M H locs ls hf hR hl
  unfold fX11_winRead_40 at hf
  cases hf
  exact x_zret hx hb hr hlk hR rfl dX11_winRead_40
set_option maxHeartbeats 4000000 in
set_option maxRecDepth 100000 in
theorem wX11_winRead_39 {r : Int32} {M1 : Mem} (X : CX E p s m args c meth cX11_winRead 1 (some .boolean) RX11) : ∀ {M : Mem} {H : Heap} {locs : List Loc} {ls : Array Slot}, fX11_winRead_39 M = some (r, M1) → Rl E (sh_ b) (nn b) s.heap M H locs → lv_has ls 1 [] → W p l e (rm 8 0 0) s m args below meth c H locs 0 0 (MQ below (qq E (some (.int r)) (sh_ b) (nn b) M1) args s 0 0 (fr E)) (F0 m 39 ls []) := by
  obtain ⟨hx, hb, hr, hml, hown, hts, hK, hN, hO, hlk, hbs⟩ := id X
  intro M H locs ls hf hR hl
  unfold fX11_winRead_39 at hf
  refine lv_iconst (v := 0) hx hb dX11_winRead_39 (by decide) ?_
  exact wX11_winRead_40 X hf hR hl
set_option maxHeartbeats 4000000 in
set_option maxRecDepth 100000 in
theorem wX11_winRead_101 {r : Int32} {M1 : Mem} (X : CX E p s m args c meth cX11_winRead 1 (some .boolean) RX11) : ∀ {M : Mem} {H : Heap} {locs : List Loc} {ls : Array Slot}, fX11_winRead_101 M = some (r, M1) → Rl E (sh_ b) (nn b) s.heap M H locs → lv_has ls 1 [] → W p l e (rm 8 0 0) s m args below meth c H locs 0 0 (MQ below (qq E (some (.int r)) (sh_ b) (nn b) M1) args s 0 0 (fr E)) (F0 m 101 ls []) := by
  obtain ⟨hx, hb, hr, hml, hown, hts, hK, hN, hO, hlk, hbs⟩ := id X
  intro M H locs ls hf hR hl
  unfold fX11_winRead_101 at hf
  refine lv_iconst (v := 0) hx hb dX11_winRead_101 (by decide) ?_
  cases hf
  exact x_zret hx hb hr hlk hR (by decide) dX11_winRead_102
set_option maxHeartbeats 4000000 in
set_option maxRecDepth 100000 in
theorem wX11_winRead_156 {r : Int32} {M1 : Mem} (X : CX E p s m args c meth cX11_winRead 1 (some .boolean) RX11) : ∀ {M : Mem} {H : Heap} {locs : List Loc} {ls : Array Slot}, fX11_winRead_156 M = some (r, M1) → Rl E (sh_ b) (nn b) s.heap M H locs → lv_has ls 1 [] → W p l e (rm 8 0 0) s m args below meth c H locs 0 0 (MQ below (qq E (some (.int r)) (sh_ b) (nn b) M1) args s 0 0 (fr E)) (F0 m 156 ls []) := by
  obtain ⟨hx, hb, hr, hml, hown, hts, hK, hN, hO, hlk, hbs⟩ := id X
  intro M H locs ls hf hR hl
  unfold fX11_winRead_156 at hf
  refine lv_iconst (v := 0) hx hb dX11_winRead_156 (by decide) ?_
  cases hf
  exact x_zret hx hb hr hlk hR (by decide) dX11_winRead_157
set_option maxHeartbeats 4000000 in
set_option maxRecDepth 100000 in
theorem wX11_winRead_85 {r : Int32} {M1 : Mem} (X : CX E p s m args c meth cX11_winRead 1 (some .boolean) RX11) : ∀ {s1 : Int32} {M : Mem} {H : Heap} {locs : List Loc} {ls : Array Slot}, fX11_winRead_85 s1 M = some (r, M1) → Rl E (sh_ b) (nn b) s.heap M H locs → lv_has ls 1 [(0, .ref (eB E + 47))] → W p l e (rm 8 0 0) s m args below meth c H locs 0 0 (MQ below (qq E (some (.int r)) (sh_ b) (nn b) M1) args s 0 0 (fr E)) (F0 m 85 ls [.int s1, .ref (eB E + 47)]) := by
  obtain ⟨hx, hb, hr, hml, hown, hts, hK, hN, hO, hlk, hbs⟩ := id X
  intro s1 M H locs ls hf hR hl
  unfold fX11_winRead_85 at hf
  obtain ⟨q85, c85, hf⟩ := br_b hf
  refine x_callV (k := 47) (As := [.int s1]) (rest := []) (st1 := [.int q85.1]) X hR (ctX11_passes c85) ml_X11_156 im_X11_passes se_X11_passes in_X11 co_X11_passes yo_X11_passes rfl kX11 (z_47 b) (rm_ok (by decide) (by decide)) rfl hl.1 rfl rfl (Nat.le_of_ble_eq_true rfl) dX11_winRead_85 ⟨Nat.zero_le _, Nat.zero_le _⟩ (fun H locs hR => ?_)
  refine lv_if_eq (tgt := 101) hx hb dX11_winRead_88 (by decide) (fun q88 => ?_) (fun q88 => ?_)
  · have hf := (br_if hf).1 q88
    exact wX11_winRead_101 X hf hR (lv_sub hl [] rfl)
  · have hf := (br_if hf).2 q88
    refine lv_aload_n hx hb dX11_winRead_91 rfl (lv_at hl 0 rfl) ?_
    refine lv_iconst (v := 1) hx hb dX11_winRead_92 (by decide) ?_
    refine lv_bipush (v := 99) hx hb dX11_winRead_93 (by decide) ?_
    obtain ⟨q95, c95, hf⟩ := br_b hf
    refine x_callV (k := 47) (As := [.int (1 : Int32), .int (99 : Int32)]) (rest := []) (st1 := [.int q95.1]) X hR (ctX11_number c95) ml_X11_170 im_X11_number se_X11_number in_X11 co_X11_number yo_X11_number rfl kX11 (z_47 b) (rm_ok (by decide) (by decide)) rfl hl.1 rfl rfl (Nat.le_of_ble_eq_true rfl) dX11_winRead_95 ⟨Nat.zero_le _, Nat.zero_le _⟩ (fun H locs hR => ?_)
    refine lv_if_ne (tgt := 103) hx hb dX11_winRead_98 (by decide) (fun q98 => ?_) (fun q98 => ?_)
    · have hf := (br_if hf).2 q98
      refine lv_aload_n hx hb dX11_winRead_103 rfl (lv_at hl 0 rfl) ?_
      refine x_get hx hb hown hts hK hR kX11 (z_47 b) (j := 17) (by decide) fl_X11_49 (v := .ref (eB E + 76)) rfl dX11_winRead_104 ?_
      refine lv_iconst (v := 1) hx hb dX11_winRead_107 (by decide) ?_
      refine lv_aload_n hx hb dX11_winRead_108 rfl (lv_at hl 0 rfl) ?_
      refine x_get hx hb hown hts hK hR kX11 (z_47 b) (j := 5) (by decide) fl_X11_153 (v := .int (q95.2.1 47 5)) rfl dX11_winRead_109 ?_
      refine x_iast hx hb hK hR (z_76 b) (by decide) dX11_winRead_112 (fun H locs hR => ?_)
      obtain ⟨M112, e112⟩ : ∃ y : Mem, y = (sI q95.2 76 (ix (1 : Int32)) (q95.2.1 47 5)) := ⟨_, rfl⟩
      have hf := nx_at e112 hf
      have hR : Rl E (sh_ b) (nn b) s.heap M112 H locs := by rw [e112]; exact hR
      refine lv_aload_n hx hb dX11_winRead_113 rfl (lv_at hl 0 rfl) ?_
      refine lv_aload_n hx hb dX11_winRead_114 rfl (lv_at hl 0 rfl) ?_
      refine lv_bipush (v := 47) hx hb dX11_winRead_115 (by decide) ?_
      obtain ⟨q117, c117, hf⟩ := br_b hf
      refine x_callV (k := 47) (As := [.int (47 : Int32)]) (rest := [.ref (eB E + 47)]) (st1 := [.int q117, .ref (eB E + 47)]) X hR (ctX11_isSign c117) ml_X11_167 im_X11_isSign se_X11_isSign in_X11 co_X11_isSign yo_X11_isSign rfl kX11 (z_47 b) (rm_ok (by decide) (by decide)) rfl hl.1 rfl rfl (Nat.le_of_ble_eq_true rfl) dX11_winRead_117 ⟨Nat.zero_le _, Nat.zero_le _⟩ (fun H locs hR => ?_)
      obtain ⟨q120, c120, hf⟩ := br_b hf
      refine x_callV (k := 47) (As := [.int q117]) (rest := []) (st1 := [.int q120.1]) X hR (ctX11_passes c120) ml_X11_156 im_X11_passes se_X11_passes in_X11 co_X11_passes yo_X11_passes rfl kX11 (z_47 b) (rm_ok (by decide) (by decide)) rfl hl.1 rfl rfl (Nat.le_of_ble_eq_true rfl) dX11_winRead_120 ⟨Nat.zero_le _, Nat.zero_le _⟩ (fun H locs hR => ?_)
      refine lv_if_eq (tgt := 156) hx hb dX11_winRead_123 (by decide) (fun q123 => ?_) (fun q123 => ?_)
      · have hf := (br_if hf).1 q123
        exact wX11_winRead_156 X hf hR (lv_sub hl [] rfl)
      · have hf := (br_if hf).2 q123
        refine lv_aload_n hx hb dX11_winRead_126 rfl (lv_at hl 0 rfl) ?_
        refine lv_iconst (v := 1) hx hb dX11_winRead_127 (by decide) ?_
        refine lv_aload_n hx hb dX11_winRead_128 rfl (lv_at hl 0 rfl) ?_
        refine x_get hx hb hown hts hK hR kX11 (z_47 b) (j := 17) (by decide) fl_X11_49 (v := .ref (eB E + 76)) rfl dX11_winRead_129 ?_
        refine lv_iconst (v := 1) hx hb dX11_winRead_132 (by decide) ?_
        refine x_iald hx hb hK hR (z_76 b) (by decide) dX11_winRead_133 ?_
        refine va_mmax hx hb (by rw [hml]; exact hl.1.symm) hown (hts _ ml_X11_192) (hts _ st_max) (hts _ in_J9) (hts _ co_max) (by decide) (Nat.le_of_ble_eq_true rfl) (Nat.zero_le _) (Nat.zero_le _) dX11_winRead_134 ?_
        refine W.eq (g2 := F0 m 137 ls [.int (imax (1 : Int32) (q120.2.1 76 (ix (1 : Int32)))), .ref (eB E + 47)]) rfl ?_
        refine lv_bipush (v := 99) hx hb dX11_winRead_137 (by decide) ?_
        refine lv_iconst (v := 2) hx hb dX11_winRead_139 (by decide) ?_
        refine lv_aload_n hx hb dX11_winRead_140 rfl (lv_at hl 0 rfl) ?_
        refine x_get hx hb hown hts hK hR kX11 (z_47 b) (j := 17) (by decide) fl_X11_49 (v := .ref (eB E + 76)) rfl dX11_winRead_141 ?_
        refine lv_iconst (v := 1) hx hb dX11_winRead_144 (by decide) ?_
        refine x_iald hx hb hK hR (z_76 b) (by decide) dX11_winRead_145 ?_
        refine lv_imul hx hb dX11_winRead_146 ?_
        refine va_mmin hx hb (by rw [hml]; exact hl.1.symm) hown (hts _ ml_X11_198) (hts _ st_min) (hts _ in_J9) (hts _ co_min) (by decide) (Nat.le_of_ble_eq_true rfl) (Nat.zero_le _) (Nat.zero_le _) dX11_winRead_147 ?_
        refine W.eq (g2 := F0 m 150 ls [.int (imin (99 : Int32) ((2 : Int32) * (q120.2.1 76 (ix (1 : Int32))))), .int (imax (1 : Int32) (q120.2.1 76 (ix (1 : Int32)))), .ref (eB E + 47)]) rfl ?_
        obtain ⟨q150, c150, hf⟩ := br_b hf
        refine x_callV (k := 47) (As := [.int (imax (1 : Int32) (q120.2.1 76 (ix (1 : Int32)))), .int (imin (99 : Int32) ((2 : Int32) * (q120.2.1 76 (ix (1 : Int32)))))]) (rest := []) (st1 := [.int q150.1]) X hR (ctX11_number c150) ml_X11_170 im_X11_number se_X11_number in_X11 co_X11_number yo_X11_number rfl kX11 (z_47 b) (rm_ok (by decide) (by decide)) rfl hl.1 rfl rfl (Nat.le_of_ble_eq_true rfl) dX11_winRead_150 ⟨Nat.zero_le _, Nat.zero_le _⟩ (fun H locs hR => ?_)
        refine lv_if_ne (tgt := 158) hx hb dX11_winRead_153 (by decide) (fun q153 => ?_) (fun q153 => ?_)
        · have hf := (br_if hf).2 q153
          refine lv_aload_n hx hb dX11_winRead_158 rfl (lv_at hl 0 rfl) ?_
          refine x_get hx hb hown hts hK hR kX11 (z_47 b) (j := 18) (by decide) fl_X11_52 (v := .ref (eB E + 77)) rfl dX11_winRead_159 ?_
          refine lv_iconst (v := 1) hx hb dX11_winRead_162 (by decide) ?_
          refine lv_aload_n hx hb dX11_winRead_163 rfl (lv_at hl 0 rfl) ?_
          refine x_get hx hb hown hts hK hR kX11 (z_47 b) (j := 5) (by decide) fl_X11_153 (v := .int (q150.2.1 47 5)) rfl dX11_winRead_164 ?_
          refine x_iast hx hb hK hR (z_77 b) (by decide) dX11_winRead_167 (fun H locs hR => ?_)
          obtain ⟨M167, e167⟩ : ∃ y : Mem, y = (sI q150.2 77 (ix (1 : Int32)) (q150.2.1 47 5)) := ⟨_, rfl⟩
          have hf := nx_at e167 hf
          have hR : Rl E (sh_ b) (nn b) s.heap M167 H locs := by rw [e167]; exact hR
          refine lv_aload_n hx hb dX11_winRead_168 rfl (lv_at hl 0 rfl) ?_
          refine lv_aload_n hx hb dX11_winRead_169 rfl (lv_at hl 0 rfl) ?_
          refine lv_bipush (v := 59) hx hb dX11_winRead_170 (by decide) ?_
          obtain ⟨q172, c172, hf⟩ := br_b hf
          refine x_callV (k := 47) (As := [.int (59 : Int32)]) (rest := [.ref (eB E + 47)]) (st1 := [.int q172, .ref (eB E + 47)]) X hR (ctX11_isSign c172) ml_X11_167 im_X11_isSign se_X11_isSign in_X11 co_X11_isSign yo_X11_isSign rfl kX11 (z_47 b) (rm_ok (by decide) (by decide)) rfl hl.1 rfl rfl (Nat.le_of_ble_eq_true rfl) dX11_winRead_172 ⟨Nat.zero_le _, Nat.zero_le _⟩ (fun H locs hR => ?_)
          obtain ⟨q175, c175, hf⟩ := br_b hf
          refine x_callV (k := 47) (As := [.int q172]) (rest := []) (st1 := [.int q175.1]) X hR (ctX11_passes c175) ml_X11_156 im_X11_passes se_X11_passes in_X11 co_X11_passes yo_X11_passes rfl kX11 (z_47 b) (rm_ok (by decide) (by decide)) rfl hl.1 rfl rfl (Nat.le_of_ble_eq_true rfl) dX11_winRead_175 ⟨Nat.zero_le _, Nat.zero_le _⟩ (fun H locs hR => ?_)
          cases hf
          exact x_zret hx hb hr hlk hR rfl dX11_winRead_178
        · have hf := (br_if hf).1 q153
          exact wX11_winRead_156 X hf hR (lv_sub hl [] rfl)
    · have hf := (br_if hf).1 q98
      exact wX11_winRead_101 X hf hR (lv_sub hl [] rfl)
set_option maxHeartbeats 4000000 in
set_option maxRecDepth 100000 in
theorem wX11_winRead_80 {r : Int32} {M1 : Mem} (X : CX E p s m args c meth cX11_winRead 1 (some .boolean) RX11) : ∀ {M : Mem} {H : Heap} {locs : List Loc} {ls : Array Slot}, fX11_winRead_80 M = some (r, M1) → Rl E (sh_ b) (nn b) s.heap M H locs → lv_has ls 1 [(0, .ref (eB E + 47))] → W p l e (rm 8 0 0) s m args below meth c H locs 0 0 (MQ below (qq E (some (.int r)) (sh_ b) (nn b) M1) args s 0 0 (fr E)) (F0 m 80 ls [.ref (eB E + 47)]) := by
  obtain ⟨hx, hb, hr, hml, hown, hts, hK, hN, hO, hlk, hbs⟩ := id X
  intro M H locs ls hf hR hl
  unfold fX11_winRead_80 at hf
  refine lv_iconst (v := 1) hx hb dX11_winRead_80 (by decide) ?_
  refine lv_goto (tgt := 85) hx hb dX11_winRead_81 (by decide) ?_
  exact wX11_winRead_85 X hf hR hl
set_option maxHeartbeats 4000000 in
set_option maxRecDepth 100000 in
theorem wX11_winRead_60 {r : Int32} {M1 : Mem} (X : CX E p s m args c meth cX11_winRead 1 (some .boolean) RX11) : ∀ {s1 : Int32} {s2 : Int32} {M : Mem} {H : Heap} {locs : List Loc} {ls : Array Slot}, fX11_winRead_60 s1 s2 M = some (r, M1) → Rl E (sh_ b) (nn b) s.heap M H locs → lv_has ls 1 [(0, .ref (eB E + 47))] → W p l e (rm 8 0 0) s m args below meth c H locs 0 0 (MQ below (qq E (some (.int r)) (sh_ b) (nn b) M1) args s 0 0 (fr E)) (F0 m 60 ls [.int s2, .int s1, .ref (eB E + 75)]) := by
  obtain ⟨hx, hb, hr, hml, hown, hts, hK, hN, hO, hlk, hbs⟩ := id X
  intro s1 s2 M H locs ls hf hR hl
  unfold fX11_winRead_60 at hf
  obtain ⟨g60, hf⟩ := br_g hf
  refine x_iast hx hb hK hR (z_75 b) g60 dX11_winRead_60 (fun H locs hR => ?_)
  obtain ⟨M60, e60⟩ : ∃ y : Mem, y = (sI M 75 (ix s1) s2) := ⟨_, rfl⟩
  have hf := nx_at e60 hf
  have hR : Rl E (sh_ b) (nn b) s.heap M60 H locs := by rw [e60]; exact hR
  refine lv_aload_n hx hb dX11_winRead_61 rfl (lv_at hl 0 rfl) ?_
  refine lv_aload_n hx hb dX11_winRead_62 rfl (lv_at hl 0 rfl) ?_
  refine va_ldcS hx hb hown (hN.1 6 (by decide)) dX11_winRead_63 ?_
  obtain ⟨q65, c65, hf⟩ := br_b hf
  refine x_callV (k := 47) (As := [.ref (E.2.2.1 6)]) (rest := [.ref (eB E + 47)]) (st1 := [.int q65, .ref (eB E + 47)]) X hR (ctX11_isWord (by decide : 6 < 26) c65) ml_X11_160 im_X11_isWord se_X11_isWord in_X11 co_X11_isWord yo_X11_isWord rfl kX11 (z_47 b) (rm_ok (by decide) (by decide)) rfl hl.1 rfl rfl (Nat.le_of_ble_eq_true rfl) dX11_winRead_65 ⟨Nat.zero_le _, Nat.zero_le _⟩ (fun H locs hR => ?_)
  refine lv_if_ne (tgt := 80) hx hb dX11_winRead_68 (by decide) (fun q68 => ?_) (fun q68 => ?_)
  · have hf := (br_if hf).2 q68
    exact wX11_winRead_80 X hf hR hl
  · have hf := (br_if hf).1 q68
    refine lv_aload_n hx hb dX11_winRead_71 rfl (lv_at hl 0 rfl) ?_
    refine va_ldcS hx hb hown (hN.1 7 (by decide)) dX11_winRead_72 ?_
    obtain ⟨q74, c74, hf⟩ := br_b hf
    refine x_callV (k := 47) (As := [.ref (E.2.2.1 7)]) (rest := [.ref (eB E + 47)]) (st1 := [.int q74, .ref (eB E + 47)]) X hR (ctX11_isWord (by decide : 7 < 26) c74) ml_X11_160 im_X11_isWord se_X11_isWord in_X11 co_X11_isWord yo_X11_isWord rfl kX11 (z_47 b) (rm_ok (by decide) (by decide)) rfl hl.1 rfl rfl (Nat.le_of_ble_eq_true rfl) dX11_winRead_74 ⟨Nat.zero_le _, Nat.zero_le _⟩ (fun H locs hR => ?_)
    refine lv_if_eq (tgt := 84) hx hb dX11_winRead_77 (by decide) (fun q77 => ?_) (fun q77 => ?_)
    · have hf := (br_if hf).1 q77
      refine lv_iconst (v := 0) hx hb dX11_winRead_84 (by decide) ?_
      exact wX11_winRead_85 X hf hR hl
    · have hf := (br_if hf).2 q77
      exact wX11_winRead_80 X hf hR hl
set_option maxHeartbeats 4000000 in
set_option maxRecDepth 100000 in
theorem wX11_winRead_0 {r : Int32} {M1 : Mem} (X : CX E p s m args c meth cX11_winRead 1 (some .boolean) RX11) : ∀ {M : Mem} {H : Heap} {locs : List Loc} {ls : Array Slot}, fX11_winRead M = some (r, M1) → Rl E (sh_ b) (nn b) s.heap M H locs → lv_has ls 1 [(0, .ref (eB E + 47))] → W p l e (rm 8 0 0) s m args below meth c H locs 0 0 (MQ below (qq E (some (.int r)) (sh_ b) (nn b) M1) args s 0 0 (fr E)) (F0 m 0 ls []) := by
  obtain ⟨hx, hb, hr, hml, hown, hts, hK, hN, hO, hlk, hbs⟩ := id X
  intro M H locs ls hf hR hl
  unfold fX11_winRead at hf
  refine lv_aload_n hx hb dX11_winRead_0 rfl (lv_at hl 0 rfl) ?_
  refine lv_iconst (v := 1) hx hb dX11_winRead_1 (by decide) ?_
  refine x_puti hx hb hown hts hK hR kX11 (z_47 b) (j := 22) (by decide) fl_X11_182 rfl rfl rfl rfl dX11_winRead_2 (fun H locs hR => ?_)
  obtain ⟨M2, e2⟩ : ∃ y : Mem, y = (sI M 47 22 (1 : Int32)) := ⟨_, rfl⟩
  have hf := nx_at e2 hf
  have hR : Rl E (sh_ b) (nn b) s.heap M2 H locs := by rw [e2]; exact hR
  refine lv_aload_n hx hb dX11_winRead_5 rfl (lv_at hl 0 rfl) ?_
  refine va_ldcS hx hb hown (hN.1 5 (by decide)) dX11_winRead_6 ?_
  obtain ⟨q8, c8, hf⟩ := br_b hf
  refine x_callV (k := 47) (As := [.ref (E.2.2.1 5)]) (rest := []) (st1 := [.int q8]) X hR (ctX11_isWord (by decide : 5 < 26) c8) ml_X11_160 im_X11_isWord se_X11_isWord in_X11 co_X11_isWord yo_X11_isWord rfl kX11 (z_47 b) (rm_ok (by decide) (by decide)) rfl hl.1 rfl rfl (Nat.le_of_ble_eq_true rfl) dX11_winRead_8 ⟨Nat.zero_le _, Nat.zero_le _⟩ (fun H locs hR => ?_)
  refine lv_if_eq (tgt := 41) hx hb dX11_winRead_11 (by decide) (fun q11 => ?_) (fun q11 => ?_)
  · have hf := (br_if hf).1 q11
    refine lv_aload_n hx hb dX11_winRead_41 rfl (lv_at hl 0 rfl) ?_
    refine x_get hx hb hown hts hK hR kX11 (z_47 b) (j := 16) (by decide) fl_X11_46 (v := .ref (eB E + 75)) rfl dX11_winRead_42 ?_
    refine lv_iconst (v := 1) hx hb dX11_winRead_45 (by decide) ?_
    refine lv_aload_n hx hb dX11_winRead_46 rfl (lv_at hl 0 rfl) ?_
    refine va_ldcS hx hb hown (hN.1 6 (by decide)) dX11_winRead_47 ?_
    obtain ⟨q49, c49, hf⟩ := br_b hf
    refine x_callV (k := 47) (As := [.ref (E.2.2.1 6)]) (rest := [.int (1 : Int32), .ref (eB E + 75)]) (st1 := [.int q49, .int (1 : Int32), .ref (eB E + 75)]) X hR (ctX11_isWord (by decide : 6 < 26) c49) ml_X11_160 im_X11_isWord se_X11_isWord in_X11 co_X11_isWord yo_X11_isWord rfl kX11 (z_47 b) (rm_ok (by decide) (by decide)) rfl hl.1 rfl rfl (Nat.le_of_ble_eq_true rfl) dX11_winRead_49 ⟨Nat.zero_le _, Nat.zero_le _⟩ (fun H locs hR => ?_)
    refine lv_if_eq (tgt := 59) hx hb dX11_winRead_52 (by decide) (fun q52 => ?_) (fun q52 => ?_)
    · have hf := (br_if hf).1 q52
      refine lv_iconst (v := 2) hx hb dX11_winRead_59 (by decide) ?_
      exact wX11_winRead_60 X hf hR hl
    · have hf := (br_if hf).2 q52
      refine lv_iconst (v := 1) hx hb dX11_winRead_55 (by decide) ?_
      refine lv_goto (tgt := 60) hx hb dX11_winRead_56 (by decide) ?_
      exact wX11_winRead_60 X hf hR hl
  · have hf := (br_if hf).2 q11
    refine lv_aload_n hx hb dX11_winRead_14 rfl (lv_at hl 0 rfl) ?_
    refine lv_iconst (v := 1) hx hb dX11_winRead_15 (by decide) ?_
    obtain ⟨q16, c16, hf⟩ := br_b hf
    refine x_callV (k := 47) (As := [.int (1 : Int32)]) (rest := []) (st1 := [.int q16.1]) X hR (ctX11_passes c16) ml_X11_156 im_X11_passes se_X11_passes in_X11 co_X11_passes yo_X11_passes rfl kX11 (z_47 b) (rm_ok (by decide) (by decide)) rfl hl.1 rfl rfl (Nat.le_of_ble_eq_true rfl) dX11_winRead_16 ⟨Nat.zero_le _, Nat.zero_le _⟩ (fun H locs hR => ?_)
    refine lv_if_eq (tgt := 39) hx hb dX11_winRead_19 (by decide) (fun q19 => ?_) (fun q19 => ?_)
    · have hf := (br_if hf).1 q19
      exact wX11_winRead_39 X hf hR (lv_sub hl [] rfl)
    · have hf := (br_if hf).2 q19
      refine lv_aload_n hx hb dX11_winRead_22 rfl (lv_at hl 0 rfl) ?_
      refine lv_aload_n hx hb dX11_winRead_23 rfl (lv_at hl 0 rfl) ?_
      refine lv_bipush (v := 59) hx hb dX11_winRead_24 (by decide) ?_
      obtain ⟨q26, c26, hf⟩ := br_b hf
      refine x_callV (k := 47) (As := [.int (59 : Int32)]) (rest := [.ref (eB E + 47)]) (st1 := [.int q26, .ref (eB E + 47)]) X hR (ctX11_isSign c26) ml_X11_167 im_X11_isSign se_X11_isSign in_X11 co_X11_isSign yo_X11_isSign rfl kX11 (z_47 b) (rm_ok (by decide) (by decide)) rfl hl.1 rfl rfl (Nat.le_of_ble_eq_true rfl) dX11_winRead_26 ⟨Nat.zero_le _, Nat.zero_le _⟩ (fun H locs hR => ?_)
      obtain ⟨q29, c29, hf⟩ := br_b hf
      refine x_callV (k := 47) (As := [.int q26]) (rest := []) (st1 := [.int q29.1]) X hR (ctX11_passes c29) ml_X11_156 im_X11_passes se_X11_passes in_X11 co_X11_passes yo_X11_passes rfl kX11 (z_47 b) (rm_ok (by decide) (by decide)) rfl hl.1 rfl rfl (Nat.le_of_ble_eq_true rfl) dX11_winRead_29 ⟨Nat.zero_le _, Nat.zero_le _⟩ (fun H locs hR => ?_)
      refine lv_if_eq (tgt := 39) hx hb dX11_winRead_32 (by decide) (fun q32 => ?_) (fun q32 => ?_)
      · have hf := (br_if hf).1 q32
        exact wX11_winRead_39 X hf hR (lv_sub hl [] rfl)
      · have hf := (br_if hf).2 q32
        refine lv_iconst (v := 1) hx hb dX11_winRead_35 (by decide) ?_
        refine lv_goto (tgt := 40) hx hb dX11_winRead_36 (by decide) ?_
        exact wX11_winRead_40 X hf hR (lv_sub hl [] rfl)
theorem ctX11_winRead {l : Launch} {E : Ge} {b : Bool} {M : Mem} {r : Int32} {M1 : Mem} (h : fX11_winRead M = some (r, M1)) : CT l E yX11_winRead cX11_winRead 1 (some .boolean) 8 0 0 [.ref (eB E + 47)] (some (.int r)) (sh_ b) (nn b) M (sh_ b) (nn b) M1 := by
  refine met_of (by decide) (Nat.le_of_ble_eq_true rfl) ?_
  intro p e s m args below meth c X _ hR ls hl
  exact wX11_winRead_0 X h hR hl
def fX11_told_29 (s0 : Int32) (M : Mem) : Option (Int32 × Mem) := some ((s0 &&& 1), M)
def fX11_told_28 (M : Mem) : Option (Int32 × Mem) := fX11_told_29 (0 : Int32) M
def fX11_told_59 (s0 : Int32) (M : Mem) : Option (Int32 × Mem) := some ((s0 &&& 1), M)
def fX11_told_58 (M : Mem) : Option (Int32 × Mem) := fX11_told_59 (0 : Int32) M
def fX11_told_104 (s0 : Int32) (M : Mem) : Option (Int32 × Mem) := some ((s0 &&& 1), M)
def fX11_told_103 (M : Mem) : Option (Int32 × Mem) := fX11_told_104 (0 : Int32) M
def fX11_told_86 (s1 : Int32) (M : Mem) : Option (Int32 × Mem) := (fX11_passes s1 M).bind (fun q86 => (if q86.1 = 0 then fX11_told_103 (q86.2) else (fX11_voterRead q86.2).bind (fun q93 => (if q93.1 = 0 then fX11_told_103 (q93.2) else fX11_told_104 (1 : Int32) (q93.2)))))
def fX11_told_149 (s0 : Int32) (M : Mem) : Option (Int32 × Mem) := some ((s0 &&& 1), M)
def fX11_told_148 (M : Mem) : Option (Int32 × Mem) := fX11_told_149 (0 : Int32) M
def fX11_told_131 (s1 : Int32) (M : Mem) : Option (Int32 × Mem) := (fX11_passes s1 M).bind (fun q131 => (if q131.1 = 0 then fX11_told_148 (q131.2) else (fX11_placeRead q131.2).bind (fun q138 => (if q138.1 = 0 then fX11_told_148 (q138.2) else fX11_told_149 (1 : Int32) (q138.2)))))
def fX11_told_190 (s0 : Int32) (M : Mem) : Option (Int32 × Mem) := some ((s0 &&& 1), M)
def fX11_told_189 (M : Mem) : Option (Int32 × Mem) := fX11_told_190 (0 : Int32) M
def fX11_told_172 (s1 : Int32) (M : Mem) : Option (Int32 × Mem) := (fX11_passes s1 M).bind (fun q172 => (if q172.1 = 0 then fX11_told_189 (q172.2) else (fX11_winRead q172.2).bind (fun q179 => (if q179.1 = 0 then fX11_told_189 (q179.2) else fX11_told_190 (1 : Int32) (q179.2)))))
def fX11_told_171 (M : Mem) : Option (Int32 × Mem) := fX11_told_172 (0 : Int32) M
def fX11_told (M : Mem) : Option (Int32 × Mem) := (fX11_isWord M 8).bind (fun q3 => (if q3 = 0 then (fX11_isWord M 9).bind (fun q33 => (if q33 = 0 then (fX11_isWord M 10).bind (fun q63 => (if q63 = 0 then (fX11_isWord M 11).bind (fun q108 => (if q108 = 0 then (fX11_isWord M 12).bind (fun q154 => (if q154 = 0 then fX11_told_171 M else (if (M.1 47 22) = 0 then fX11_told_172 (1 : Int32) M else fX11_told_171 M))) else (if (20 : Int32) ≤ (M.1 74 (ix (1 : Int32))) then fX11_told_131 (0 : Int32) M else fX11_told_131 (1 : Int32) M))) else (if (15 : Int32) ≤ (M.1 73 (ix (1 : Int32))) then fX11_told_86 (0 : Int32) M else fX11_told_86 (1 : Int32) M))) else (fX11_passes (1 : Int32) M).bind (fun q41 => (if q41.1 = 0 then fX11_told_58 (q41.2) else (fX11_stretch q41.2).bind (fun q48 => (if q48.1 = 0 then fX11_told_58 (q48.2) else fX11_told_59 (1 : Int32) (q48.2))))))) else (fX11_passes (1 : Int32) M).bind (fun q11 => (if q11.1 = 0 then fX11_told_28 (q11.2) else (fX11_near q11.2).bind (fun q18 => (if q18.1 = 0 then fX11_told_28 (q18.2) else fX11_told_29 (1 : Int32) (q18.2)))))))
set_option maxHeartbeats 4000000 in
set_option maxRecDepth 100000 in
theorem wX11_told_29 {r : Int32} {M1 : Mem} (X : CX E p s m args c meth cX11_told 1 (some .boolean) RX11) : ∀ {s0 : Int32} {M : Mem} {H : Heap} {locs : List Loc} {ls : Array Slot}, fX11_told_29 s0 M = some (r, M1) → Rl E (sh_ b) (nn b) s.heap M H locs → lv_has ls 1 [] → W p l e (rm 9 0 0) s m args below meth c H locs 0 0 (MQ below (qq E (some (.int r)) (sh_ b) (nn b) M1) args s 0 0 (fr E)) (F0 m 29 ls [.int s0]) := by
  obtain ⟨hx, hb, hr, hml, hown, hts, hK, hN, hO, hlk, hbs⟩ := id X
  intro s0 M H locs ls hf hR hl
  unfold fX11_told_29 at hf
  cases hf
  exact x_zret hx hb hr hlk hR rfl dX11_told_29
set_option maxHeartbeats 4000000 in
set_option maxRecDepth 100000 in
theorem wX11_told_28 {r : Int32} {M1 : Mem} (X : CX E p s m args c meth cX11_told 1 (some .boolean) RX11) : ∀ {M : Mem} {H : Heap} {locs : List Loc} {ls : Array Slot}, fX11_told_28 M = some (r, M1) → Rl E (sh_ b) (nn b) s.heap M H locs → lv_has ls 1 [] → W p l e (rm 9 0 0) s m args below meth c H locs 0 0 (MQ below (qq E (some (.int r)) (sh_ b) (nn b) M1) args s 0 0 (fr E)) (F0 m 28 ls []) := by
  obtain ⟨hx, hb, hr, hml, hown, hts, hK, hN, hO, hlk, hbs⟩ := id X
  intro M H locs ls hf hR hl
  unfold fX11_told_28 at hf
  refine lv_iconst (v := 0) hx hb dX11_told_28 (by decide) ?_
  exact wX11_told_29 X hf hR hl
set_option maxHeartbeats 4000000 in
set_option maxRecDepth 100000 in
theorem wX11_told_59 {r : Int32} {M1 : Mem} (X : CX E p s m args c meth cX11_told 1 (some .boolean) RX11) : ∀ {s0 : Int32} {M : Mem} {H : Heap} {locs : List Loc} {ls : Array Slot}, fX11_told_59 s0 M = some (r, M1) → Rl E (sh_ b) (nn b) s.heap M H locs → lv_has ls 1 [] → W p l e (rm 9 0 0) s m args below meth c H locs 0 0 (MQ below (qq E (some (.int r)) (sh_ b) (nn b) M1) args s 0 0 (fr E)) (F0 m 59 ls [.int s0]) := by
  obtain ⟨hx, hb, hr, hml, hown, hts, hK, hN, hO, hlk, hbs⟩ := id X
  intro s0 M H locs ls hf hR hl
  unfold fX11_told_59 at hf
  cases hf
  exact x_zret hx hb hr hlk hR rfl dX11_told_59
set_option maxHeartbeats 4000000 in
set_option maxRecDepth 100000 in
theorem wX11_told_58 {r : Int32} {M1 : Mem} (X : CX E p s m args c meth cX11_told 1 (some .boolean) RX11) : ∀ {M : Mem} {H : Heap} {locs : List Loc} {ls : Array Slot}, fX11_told_58 M = some (r, M1) → Rl E (sh_ b) (nn b) s.heap M H locs → lv_has ls 1 [] → W p l e (rm 9 0 0) s m args below meth c H locs 0 0 (MQ below (qq E (some (.int r)) (sh_ b) (nn b) M1) args s 0 0 (fr E)) (F0 m 58 ls []) := by
  obtain ⟨hx, hb, hr, hml, hown, hts, hK, hN, hO, hlk, hbs⟩ := id X
  intro M H locs ls hf hR hl
  unfold fX11_told_58 at hf
  refine lv_iconst (v := 0) hx hb dX11_told_58 (by decide) ?_
  exact wX11_told_59 X hf hR hl
set_option maxHeartbeats 4000000 in
set_option maxRecDepth 100000 in
theorem wX11_told_104 {r : Int32} {M1 : Mem} (X : CX E p s m args c meth cX11_told 1 (some .boolean) RX11) : ∀ {s0 : Int32} {M : Mem} {H : Heap} {locs : List Loc} {ls : Array Slot}, fX11_told_104 s0 M = some (r, M1) → Rl E (sh_ b) (nn b) s.heap M H locs → lv_has ls 1 [] → W p l e (rm 9 0 0) s m args below meth c H locs 0 0 (MQ below (qq E (some (.int r)) (sh_ b) (nn b) M1) args s 0 0 (fr E)) (F0 m 104 ls [.int s0]) := by
  obtain ⟨hx, hb, hr, hml, hown, hts, hK, hN, hO, hlk, hbs⟩ := id X
  intro s0 M H locs ls hf hR hl
  unfold fX11_told_104 at hf
  cases hf
  exact x_zret hx hb hr hlk hR rfl dX11_told_104
set_option maxHeartbeats 4000000 in
set_option maxRecDepth 100000 in
theorem wX11_told_103 {r : Int32} {M1 : Mem} (X : CX E p s m args c meth cX11_told 1 (some .boolean) RX11) : ∀ {M : Mem} {H : Heap} {locs : List Loc} {ls : Array Slot}, fX11_told_103 M = some (r, M1) → Rl E (sh_ b) (nn b) s.heap M H locs → lv_has ls 1 [] → W p l e (rm 9 0 0) s m args below meth c H locs 0 0 (MQ below (qq E (some (.int r)) (sh_ b) (nn b) M1) args s 0 0 (fr E)) (F0 m 103 ls []) := by
  obtain ⟨hx, hb, hr, hml, hown, hts, hK, hN, hO, hlk, hbs⟩ := id X
  intro M H locs ls hf hR hl
  unfold fX11_told_103 at hf
  refine lv_iconst (v := 0) hx hb dX11_told_103 (by decide) ?_
  exact wX11_told_104 X hf hR hl
set_option maxHeartbeats 4000000 in
set_option maxRecDepth 100000 in
theorem wX11_told_86 {r : Int32} {M1 : Mem} (X : CX E p s m args c meth cX11_told 1 (some .boolean) RX11) : ∀ {s1 : Int32} {M : Mem} {H : Heap} {locs : List Loc} {ls : Array Slot}, fX11_told_86 s1 M = some (r, M1) → Rl E (sh_ b) (nn b) s.heap M H locs → lv_has ls 1 [(0, .ref (eB E + 47))] → W p l e (rm 9 0 0) s m args below meth c H locs 0 0 (MQ below (qq E (some (.int r)) (sh_ b) (nn b) M1) args s 0 0 (fr E)) (F0 m 86 ls [.int s1, .ref (eB E + 47)]) := by
  obtain ⟨hx, hb, hr, hml, hown, hts, hK, hN, hO, hlk, hbs⟩ := id X
  intro s1 M H locs ls hf hR hl
  unfold fX11_told_86 at hf
  obtain ⟨q86, c86, hf⟩ := br_b hf
  refine x_callV (k := 47) (As := [.int s1]) (rest := []) (st1 := [.int q86.1]) X hR (ctX11_passes c86) ml_X11_156 im_X11_passes se_X11_passes in_X11 co_X11_passes yo_X11_passes rfl kX11 (z_47 b) (rm_ok (by decide) (by decide)) rfl hl.1 rfl rfl (Nat.le_of_ble_eq_true rfl) dX11_told_86 ⟨Nat.zero_le _, Nat.zero_le _⟩ (fun H locs hR => ?_)
  refine lv_if_eq (tgt := 103) hx hb dX11_told_89 (by decide) (fun q89 => ?_) (fun q89 => ?_)
  · have hf := (br_if hf).1 q89
    exact wX11_told_103 X hf hR (lv_sub hl [] rfl)
  · have hf := (br_if hf).2 q89
    refine lv_aload_n hx hb dX11_told_92 rfl (lv_at hl 0 rfl) ?_
    obtain ⟨q93, c93, hf⟩ := br_b hf
    refine x_callV (k := 47) (As := []) (rest := []) (st1 := [.int q93.1]) X hR (ctX11_voterRead c93) ml_X11_212 im_X11_voterRead se_X11_voterRead in_X11 co_X11_voterRead yo_X11_voterRead rfl kX11 (z_47 b) (rm_ok (by decide) (by decide)) rfl hl.1 rfl rfl (Nat.le_of_ble_eq_true rfl) dX11_told_93 ⟨Nat.zero_le _, Nat.zero_le _⟩ (fun H locs hR => ?_)
    refine lv_if_eq (tgt := 103) hx hb dX11_told_96 (by decide) (fun q96 => ?_) (fun q96 => ?_)
    · have hf := (br_if hf).1 q96
      exact wX11_told_103 X hf hR (lv_sub hl [] rfl)
    · have hf := (br_if hf).2 q96
      refine lv_iconst (v := 1) hx hb dX11_told_99 (by decide) ?_
      refine lv_goto (tgt := 104) hx hb dX11_told_100 (by decide) ?_
      exact wX11_told_104 X hf hR (lv_sub hl [] rfl)
set_option maxHeartbeats 4000000 in
set_option maxRecDepth 100000 in
theorem wX11_told_149 {r : Int32} {M1 : Mem} (X : CX E p s m args c meth cX11_told 1 (some .boolean) RX11) : ∀ {s0 : Int32} {M : Mem} {H : Heap} {locs : List Loc} {ls : Array Slot}, fX11_told_149 s0 M = some (r, M1) → Rl E (sh_ b) (nn b) s.heap M H locs → lv_has ls 1 [] → W p l e (rm 9 0 0) s m args below meth c H locs 0 0 (MQ below (qq E (some (.int r)) (sh_ b) (nn b) M1) args s 0 0 (fr E)) (F0 m 149 ls [.int s0]) := by
  obtain ⟨hx, hb, hr, hml, hown, hts, hK, hN, hO, hlk, hbs⟩ := id X
  intro s0 M H locs ls hf hR hl
  unfold fX11_told_149 at hf
  cases hf
  exact x_zret hx hb hr hlk hR rfl dX11_told_149
set_option maxHeartbeats 4000000 in
set_option maxRecDepth 100000 in
theorem wX11_told_148 {r : Int32} {M1 : Mem} (X : CX E p s m args c meth cX11_told 1 (some .boolean) RX11) : ∀ {M : Mem} {H : Heap} {locs : List Loc} {ls : Array Slot}, fX11_told_148 M = some (r, M1) → Rl E (sh_ b) (nn b) s.heap M H locs → lv_has ls 1 [] → W p l e (rm 9 0 0) s m args below meth c H locs 0 0 (MQ below (qq E (some (.int r)) (sh_ b) (nn b) M1) args s 0 0 (fr E)) (F0 m 148 ls []) := by
  obtain ⟨hx, hb, hr, hml, hown, hts, hK, hN, hO, hlk, hbs⟩ := id X
  intro M H locs ls hf hR hl
  unfold fX11_told_148 at hf
  refine lv_iconst (v := 0) hx hb dX11_told_148 (by decide) ?_
  exact wX11_told_149 X hf hR hl
set_option maxHeartbeats 4000000 in
set_option maxRecDepth 100000 in
theorem wX11_told_131 {r : Int32} {M1 : Mem} (X : CX E p s m args c meth cX11_told 1 (some .boolean) RX11) : ∀ {s1 : Int32} {M : Mem} {H : Heap} {locs : List Loc} {ls : Array Slot}, fX11_told_131 s1 M = some (r, M1) → Rl E (sh_ b) (nn b) s.heap M H locs → lv_has ls 1 [(0, .ref (eB E + 47))] → W p l e (rm 9 0 0) s m args below meth c H locs 0 0 (MQ below (qq E (some (.int r)) (sh_ b) (nn b) M1) args s 0 0 (fr E)) (F0 m 131 ls [.int s1, .ref (eB E + 47)]) := by
  obtain ⟨hx, hb, hr, hml, hown, hts, hK, hN, hO, hlk, hbs⟩ := id X
  intro s1 M H locs ls hf hR hl
  unfold fX11_told_131 at hf
  obtain ⟨q131, c131, hf⟩ := br_b hf
  refine x_callV (k := 47) (As := [.int s1]) (rest := []) (st1 := [.int q131.1]) X hR (ctX11_passes c131) ml_X11_156 im_X11_passes se_X11_passes in_X11 co_X11_passes yo_X11_passes rfl kX11 (z_47 b) (rm_ok (by decide) (by decide)) rfl hl.1 rfl rfl (Nat.le_of_ble_eq_true rfl) dX11_told_131 ⟨Nat.zero_le _, Nat.zero_le _⟩ (fun H locs hR => ?_)
  refine lv_if_eq (tgt := 148) hx hb dX11_told_134 (by decide) (fun q134 => ?_) (fun q134 => ?_)
  · have hf := (br_if hf).1 q134
    exact wX11_told_148 X hf hR (lv_sub hl [] rfl)
  · have hf := (br_if hf).2 q134
    refine lv_aload_n hx hb dX11_told_137 rfl (lv_at hl 0 rfl) ?_
    obtain ⟨q138, c138, hf⟩ := br_b hf
    refine x_callV (k := 47) (As := []) (rest := []) (st1 := [.int q138.1]) X hR (ctX11_placeRead c138) ml_X11_217 im_X11_placeRead se_X11_placeRead in_X11 co_X11_placeRead yo_X11_placeRead rfl kX11 (z_47 b) (rm_ok (by decide) (by decide)) rfl hl.1 rfl rfl (Nat.le_of_ble_eq_true rfl) dX11_told_138 ⟨Nat.zero_le _, Nat.zero_le _⟩ (fun H locs hR => ?_)
    refine lv_if_eq (tgt := 148) hx hb dX11_told_141 (by decide) (fun q141 => ?_) (fun q141 => ?_)
    · have hf := (br_if hf).1 q141
      exact wX11_told_148 X hf hR (lv_sub hl [] rfl)
    · have hf := (br_if hf).2 q141
      refine lv_iconst (v := 1) hx hb dX11_told_144 (by decide) ?_
      refine lv_goto (tgt := 149) hx hb dX11_told_145 (by decide) ?_
      exact wX11_told_149 X hf hR (lv_sub hl [] rfl)
set_option maxHeartbeats 4000000 in
set_option maxRecDepth 100000 in
theorem wX11_told_190 {r : Int32} {M1 : Mem} (X : CX E p s m args c meth cX11_told 1 (some .boolean) RX11) : ∀ {s0 : Int32} {M : Mem} {H : Heap} {locs : List Loc} {ls : Array Slot}, fX11_told_190 s0 M = some (r, M1) → Rl E (sh_ b) (nn b) s.heap M H locs → lv_has ls 1 [] → W p l e (rm 9 0 0) s m args below meth c H locs 0 0 (MQ below (qq E (some (.int r)) (sh_ b) (nn b) M1) args s 0 0 (fr E)) (F0 m 190 ls [.int s0]) := by
  obtain ⟨hx, hb, hr, hml, hown, hts, hK, hN, hO, hlk, hbs⟩ := id X
  intro s0 M H locs ls hf hR hl
  unfold fX11_told_190 at hf
  cases hf
  exact x_zret hx hb hr hlk hR rfl dX11_told_190
set_option maxHeartbeats 4000000 in
set_option maxRecDepth 100000 in
theorem wX11_told_189 {r : Int32} {M1 : Mem} (X : CX E p s m args c meth cX11_told 1 (some .boolean) RX11) : ∀ {M : Mem} {H : Heap} {locs : List Loc} {ls : Array Slot}, fX11_told_189 M = some (r, M1) → Rl E (sh_ b) (nn b) s.heap M H locs → lv_has ls 1 [] → W p l e (rm 9 0 0) s m args below meth c H locs 0 0 (MQ below (qq E (some (.int r)) (sh_ b) (nn b) M1) args s 0 0 (fr E)) (F0 m 189 ls []) := by
  obtain ⟨hx, hb, hr, hml, hown, hts, hK, hN, hO, hlk, hbs⟩ := id X
  intro M H locs ls hf hR hl
  unfold fX11_told_189 at hf
  refine lv_iconst (v := 0) hx hb dX11_told_189 (by decide) ?_
  exact wX11_told_190 X hf hR hl
set_option maxHeartbeats 4000000 in
set_option maxRecDepth 100000 in
theorem wX11_told_172 {r : Int32} {M1 : Mem} (X : CX E p s m args c meth cX11_told 1 (some .boolean) RX11) : ∀ {s1 : Int32} {M : Mem} {H : Heap} {locs : List Loc} {ls : Array Slot}, fX11_told_172 s1 M = some (r, M1) → Rl E (sh_ b) (nn b) s.heap M H locs → lv_has ls 1 [(0, .ref (eB E + 47))] → W p l e (rm 9 0 0) s m args below meth c H locs 0 0 (MQ below (qq E (some (.int r)) (sh_ b) (nn b) M1) args s 0 0 (fr E)) (F0 m 172 ls [.int s1, .ref (eB E + 47)]) := by
  obtain ⟨hx, hb, hr, hml, hown, hts, hK, hN, hO, hlk, hbs⟩ := id X
  intro s1 M H locs ls hf hR hl
  unfold fX11_told_172 at hf
  obtain ⟨q172, c172, hf⟩ := br_b hf
  refine x_callV (k := 47) (As := [.int s1]) (rest := []) (st1 := [.int q172.1]) X hR (ctX11_passes c172) ml_X11_156 im_X11_passes se_X11_passes in_X11 co_X11_passes yo_X11_passes rfl kX11 (z_47 b) (rm_ok (by decide) (by decide)) rfl hl.1 rfl rfl (Nat.le_of_ble_eq_true rfl) dX11_told_172 ⟨Nat.zero_le _, Nat.zero_le _⟩ (fun H locs hR => ?_)
  refine lv_if_eq (tgt := 189) hx hb dX11_told_175 (by decide) (fun q175 => ?_) (fun q175 => ?_)
  · have hf := (br_if hf).1 q175
    exact wX11_told_189 X hf hR (lv_sub hl [] rfl)
  · have hf := (br_if hf).2 q175
    refine lv_aload_n hx hb dX11_told_178 rfl (lv_at hl 0 rfl) ?_
    obtain ⟨q179, c179, hf⟩ := br_b hf
    refine x_callV (k := 47) (As := []) (rest := []) (st1 := [.int q179.1]) X hR (ctX11_winRead c179) ml_X11_222 im_X11_winRead se_X11_winRead in_X11 co_X11_winRead yo_X11_winRead rfl kX11 (z_47 b) (rm_ok (by decide) (by decide)) rfl hl.1 rfl rfl (Nat.le_of_ble_eq_true rfl) dX11_told_179 ⟨Nat.zero_le _, Nat.zero_le _⟩ (fun H locs hR => ?_)
    refine lv_if_eq (tgt := 189) hx hb dX11_told_182 (by decide) (fun q182 => ?_) (fun q182 => ?_)
    · have hf := (br_if hf).1 q182
      exact wX11_told_189 X hf hR (lv_sub hl [] rfl)
    · have hf := (br_if hf).2 q182
      refine lv_iconst (v := 1) hx hb dX11_told_185 (by decide) ?_
      refine lv_goto (tgt := 190) hx hb dX11_told_186 (by decide) ?_
      exact wX11_told_190 X hf hR (lv_sub hl [] rfl)
set_option maxHeartbeats 4000000 in
set_option maxRecDepth 100000 in
theorem wX11_told_171 {r : Int32} {M1 : Mem} (X : CX E p s m args c meth cX11_told 1 (some .boolean) RX11) : ∀ {M : Mem} {H : Heap} {locs : List Loc} {ls : Array Slot}, fX11_told_171 M = some (r, M1) → Rl E (sh_ b) (nn b) s.heap M H locs → lv_has ls 1 [(0, .ref (eB E + 47))] → W p l e (rm 9 0 0) s m args below meth c H locs 0 0 (MQ below (qq E (some (.int r)) (sh_ b) (nn b) M1) args s 0 0 (fr E)) (F0 m 171 ls [.ref (eB E + 47)]) := by
  obtain ⟨hx, hb, hr, hml, hown, hts, hK, hN, hO, hlk, hbs⟩ := id X
  intro M H locs ls hf hR hl
  unfold fX11_told_171 at hf
  refine lv_iconst (v := 0) hx hb dX11_told_171 (by decide) ?_
  exact wX11_told_172 X hf hR hl
set_option maxHeartbeats 4000000 in
set_option maxRecDepth 100000 in
theorem wX11_told_0 {r : Int32} {M1 : Mem} (X : CX E p s m args c meth cX11_told 1 (some .boolean) RX11) : ∀ {M : Mem} {H : Heap} {locs : List Loc} {ls : Array Slot}, fX11_told M = some (r, M1) → Rl E (sh_ b) (nn b) s.heap M H locs → lv_has ls 1 [(0, .ref (eB E + 47))] → W p l e (rm 9 0 0) s m args below meth c H locs 0 0 (MQ below (qq E (some (.int r)) (sh_ b) (nn b) M1) args s 0 0 (fr E)) (F0 m 0 ls []) := by
  obtain ⟨hx, hb, hr, hml, hown, hts, hK, hN, hO, hlk, hbs⟩ := id X
  intro M H locs ls hf hR hl
  unfold fX11_told at hf
  refine lv_aload_n hx hb dX11_told_0 rfl (lv_at hl 0 rfl) ?_
  refine va_ldcS hx hb hown (hN.1 8 (by decide)) dX11_told_1 ?_
  obtain ⟨q3, c3, hf⟩ := br_b hf
  refine x_callV (k := 47) (As := [.ref (E.2.2.1 8)]) (rest := []) (st1 := [.int q3]) X hR (ctX11_isWord (by decide : 8 < 26) c3) ml_X11_160 im_X11_isWord se_X11_isWord in_X11 co_X11_isWord yo_X11_isWord rfl kX11 (z_47 b) (rm_ok (by decide) (by decide)) rfl hl.1 rfl rfl (Nat.le_of_ble_eq_true rfl) dX11_told_3 ⟨Nat.zero_le _, Nat.zero_le _⟩ (fun H locs hR => ?_)
  refine lv_if_eq (tgt := 30) hx hb dX11_told_6 (by decide) (fun q6 => ?_) (fun q6 => ?_)
  · have hf := (br_if hf).1 q6
    refine lv_aload_n hx hb dX11_told_30 rfl (lv_at hl 0 rfl) ?_
    refine va_ldcS hx hb hown (hN.1 9 (by decide)) dX11_told_31 ?_
    obtain ⟨q33, c33, hf⟩ := br_b hf
    refine x_callV (k := 47) (As := [.ref (E.2.2.1 9)]) (rest := []) (st1 := [.int q33]) X hR (ctX11_isWord (by decide : 9 < 26) c33) ml_X11_160 im_X11_isWord se_X11_isWord in_X11 co_X11_isWord yo_X11_isWord rfl kX11 (z_47 b) (rm_ok (by decide) (by decide)) rfl hl.1 rfl rfl (Nat.le_of_ble_eq_true rfl) dX11_told_33 ⟨Nat.zero_le _, Nat.zero_le _⟩ (fun H locs hR => ?_)
    refine lv_if_eq (tgt := 60) hx hb dX11_told_36 (by decide) (fun q36 => ?_) (fun q36 => ?_)
    · have hf := (br_if hf).1 q36
      refine lv_aload_n hx hb dX11_told_60 rfl (lv_at hl 0 rfl) ?_
      refine va_ldcS hx hb hown (hN.1 10 (by decide)) dX11_told_61 ?_
      obtain ⟨q63, c63, hf⟩ := br_b hf
      refine x_callV (k := 47) (As := [.ref (E.2.2.1 10)]) (rest := []) (st1 := [.int q63]) X hR (ctX11_isWord (by decide : 10 < 26) c63) ml_X11_160 im_X11_isWord se_X11_isWord in_X11 co_X11_isWord yo_X11_isWord rfl kX11 (z_47 b) (rm_ok (by decide) (by decide)) rfl hl.1 rfl rfl (Nat.le_of_ble_eq_true rfl) dX11_told_63 ⟨Nat.zero_le _, Nat.zero_le _⟩ (fun H locs hR => ?_)
      refine lv_if_eq (tgt := 105) hx hb dX11_told_66 (by decide) (fun q66 => ?_) (fun q66 => ?_)
      · have hf := (br_if hf).1 q66
        refine lv_aload_n hx hb dX11_told_105 rfl (lv_at hl 0 rfl) ?_
        refine va_ldcS hx hb hown (hN.1 11 (by decide)) dX11_told_106 ?_
        obtain ⟨q108, c108, hf⟩ := br_b hf
        refine x_callV (k := 47) (As := [.ref (E.2.2.1 11)]) (rest := []) (st1 := [.int q108]) X hR (ctX11_isWord (by decide : 11 < 26) c108) ml_X11_160 im_X11_isWord se_X11_isWord in_X11 co_X11_isWord yo_X11_isWord rfl kX11 (z_47 b) (rm_ok (by decide) (by decide)) rfl hl.1 rfl rfl (Nat.le_of_ble_eq_true rfl) dX11_told_108 ⟨Nat.zero_le _, Nat.zero_le _⟩ (fun H locs hR => ?_)
        refine lv_if_eq (tgt := 150) hx hb dX11_told_111 (by decide) (fun q111 => ?_) (fun q111 => ?_)
        · have hf := (br_if hf).1 q111
          refine lv_aload_n hx hb dX11_told_150 rfl (lv_at hl 0 rfl) ?_
          refine lv_aload_n hx hb dX11_told_151 rfl (lv_at hl 0 rfl) ?_
          refine va_ldcS hx hb hown (hN.1 12 (by decide)) dX11_told_152 ?_
          obtain ⟨q154, c154, hf⟩ := br_b hf
          refine x_callV (k := 47) (As := [.ref (E.2.2.1 12)]) (rest := [.ref (eB E + 47)]) (st1 := [.int q154, .ref (eB E + 47)]) X hR (ctX11_isWord (by decide : 12 < 26) c154) ml_X11_160 im_X11_isWord se_X11_isWord in_X11 co_X11_isWord yo_X11_isWord rfl kX11 (z_47 b) (rm_ok (by decide) (by decide)) rfl hl.1 rfl rfl (Nat.le_of_ble_eq_true rfl) dX11_told_154 ⟨Nat.zero_le _, Nat.zero_le _⟩ (fun H locs hR => ?_)
          refine lv_if_eq (tgt := 171) hx hb dX11_told_157 (by decide) (fun q157 => ?_) (fun q157 => ?_)
          · have hf := (br_if hf).1 q157
            exact wX11_told_171 X hf hR hl
          · have hf := (br_if hf).2 q157
            refine lv_aload_n hx hb dX11_told_160 rfl (lv_at hl 0 rfl) ?_
            refine x_get hx hb hown hts hK hR kX11 (z_47 b) (j := 22) (by decide) fl_X11_182 (v := .int (M.1 47 22)) rfl dX11_told_161 ?_
            refine lv_if_ne (tgt := 171) hx hb dX11_told_164 (by decide) (fun q164 => ?_) (fun q164 => ?_)
            · have hf := (br_if hf).2 q164
              exact wX11_told_171 X hf hR hl
            · have hf := (br_if hf).1 q164
              refine lv_iconst (v := 1) hx hb dX11_told_167 (by decide) ?_
              refine lv_goto (tgt := 172) hx hb dX11_told_168 (by decide) ?_
              exact wX11_told_172 X hf hR hl
        · have hf := (br_if hf).2 q111
          refine lv_aload_n hx hb dX11_told_114 rfl (lv_at hl 0 rfl) ?_
          refine lv_aload_n hx hb dX11_told_115 rfl (lv_at hl 0 rfl) ?_
          refine x_get hx hb hown hts hK hR kX11 (z_47 b) (j := 15) (by decide) fl_X11_43 (v := .ref (eB E + 74)) rfl dX11_told_116 ?_
          refine lv_iconst (v := 1) hx hb dX11_told_119 (by decide) ?_
          refine x_iald hx hb hK hR (z_74 b) (by decide) dX11_told_120 ?_
          refine lv_bipush (v := 20) hx hb dX11_told_121 (by decide) ?_
          refine lv_icmp_ge (tgt := 130) hx hb dX11_told_123 (by decide) (fun q123 => ?_) (fun q123 => ?_)
          · have hf := (br_if hf).1 q123
            refine lv_iconst (v := 0) hx hb dX11_told_130 (by decide) ?_
            exact wX11_told_131 X hf hR hl
          · have hf := (br_if hf).2 q123
            refine lv_iconst (v := 1) hx hb dX11_told_126 (by decide) ?_
            refine lv_goto (tgt := 131) hx hb dX11_told_127 (by decide) ?_
            exact wX11_told_131 X hf hR hl
      · have hf := (br_if hf).2 q66
        refine lv_aload_n hx hb dX11_told_69 rfl (lv_at hl 0 rfl) ?_
        refine lv_aload_n hx hb dX11_told_70 rfl (lv_at hl 0 rfl) ?_
        refine x_get hx hb hown hts hK hR kX11 (z_47 b) (j := 14) (by decide) fl_X11_39 (v := .ref (eB E + 73)) rfl dX11_told_71 ?_
        refine lv_iconst (v := 1) hx hb dX11_told_74 (by decide) ?_
        refine x_iald hx hb hK hR (z_73 b) (by decide) dX11_told_75 ?_
        refine lv_bipush (v := 15) hx hb dX11_told_76 (by decide) ?_
        refine lv_icmp_ge (tgt := 85) hx hb dX11_told_78 (by decide) (fun q78 => ?_) (fun q78 => ?_)
        · have hf := (br_if hf).1 q78
          refine lv_iconst (v := 0) hx hb dX11_told_85 (by decide) ?_
          exact wX11_told_86 X hf hR hl
        · have hf := (br_if hf).2 q78
          refine lv_iconst (v := 1) hx hb dX11_told_81 (by decide) ?_
          refine lv_goto (tgt := 86) hx hb dX11_told_82 (by decide) ?_
          exact wX11_told_86 X hf hR hl
    · have hf := (br_if hf).2 q36
      refine lv_aload_n hx hb dX11_told_39 rfl (lv_at hl 0 rfl) ?_
      refine lv_iconst (v := 1) hx hb dX11_told_40 (by decide) ?_
      obtain ⟨q41, c41, hf⟩ := br_b hf
      refine x_callV (k := 47) (As := [.int (1 : Int32)]) (rest := []) (st1 := [.int q41.1]) X hR (ctX11_passes c41) ml_X11_156 im_X11_passes se_X11_passes in_X11 co_X11_passes yo_X11_passes rfl kX11 (z_47 b) (rm_ok (by decide) (by decide)) rfl hl.1 rfl rfl (Nat.le_of_ble_eq_true rfl) dX11_told_41 ⟨Nat.zero_le _, Nat.zero_le _⟩ (fun H locs hR => ?_)
      refine lv_if_eq (tgt := 58) hx hb dX11_told_44 (by decide) (fun q44 => ?_) (fun q44 => ?_)
      · have hf := (br_if hf).1 q44
        exact wX11_told_58 X hf hR (lv_sub hl [] rfl)
      · have hf := (br_if hf).2 q44
        refine lv_aload_n hx hb dX11_told_47 rfl (lv_at hl 0 rfl) ?_
        obtain ⟨q48, c48, hf⟩ := br_b hf
        refine x_callV (k := 47) (As := []) (rest := []) (st1 := [.int q48.1]) X hR (ctX11_stretch c48) ml_X11_208 im_X11_stretch se_X11_stretch in_X11 co_X11_stretch yo_X11_stretch rfl kX11 (z_47 b) (rm_ok (by decide) (by decide)) rfl hl.1 rfl rfl (Nat.le_of_ble_eq_true rfl) dX11_told_48 ⟨Nat.zero_le _, Nat.zero_le _⟩ (fun H locs hR => ?_)
        refine lv_if_eq (tgt := 58) hx hb dX11_told_51 (by decide) (fun q51 => ?_) (fun q51 => ?_)
        · have hf := (br_if hf).1 q51
          exact wX11_told_58 X hf hR (lv_sub hl [] rfl)
        · have hf := (br_if hf).2 q51
          refine lv_iconst (v := 1) hx hb dX11_told_54 (by decide) ?_
          refine lv_goto (tgt := 59) hx hb dX11_told_55 (by decide) ?_
          exact wX11_told_59 X hf hR (lv_sub hl [] rfl)
  · have hf := (br_if hf).2 q6
    refine lv_aload_n hx hb dX11_told_9 rfl (lv_at hl 0 rfl) ?_
    refine lv_iconst (v := 1) hx hb dX11_told_10 (by decide) ?_
    obtain ⟨q11, c11, hf⟩ := br_b hf
    refine x_callV (k := 47) (As := [.int (1 : Int32)]) (rest := []) (st1 := [.int q11.1]) X hR (ctX11_passes c11) ml_X11_156 im_X11_passes se_X11_passes in_X11 co_X11_passes yo_X11_passes rfl kX11 (z_47 b) (rm_ok (by decide) (by decide)) rfl hl.1 rfl rfl (Nat.le_of_ble_eq_true rfl) dX11_told_11 ⟨Nat.zero_le _, Nat.zero_le _⟩ (fun H locs hR => ?_)
    refine lv_if_eq (tgt := 28) hx hb dX11_told_14 (by decide) (fun q14 => ?_) (fun q14 => ?_)
    · have hf := (br_if hf).1 q14
      exact wX11_told_28 X hf hR (lv_sub hl [] rfl)
    · have hf := (br_if hf).2 q14
      refine lv_aload_n hx hb dX11_told_17 rfl (lv_at hl 0 rfl) ?_
      obtain ⟨q18, c18, hf⟩ := br_b hf
      refine x_callV (k := 47) (As := []) (rest := []) (st1 := [.int q18.1]) X hR (ctX11_near c18) ml_X11_203 im_X11_near se_X11_near in_X11 co_X11_near yo_X11_near rfl kX11 (z_47 b) (rm_ok (by decide) (by decide)) rfl hl.1 rfl rfl (Nat.le_of_ble_eq_true rfl) dX11_told_18 ⟨Nat.zero_le _, Nat.zero_le _⟩ (fun H locs hR => ?_)
      refine lv_if_eq (tgt := 28) hx hb dX11_told_21 (by decide) (fun q21 => ?_) (fun q21 => ?_)
      · have hf := (br_if hf).1 q21
        exact wX11_told_28 X hf hR (lv_sub hl [] rfl)
      · have hf := (br_if hf).2 q21
        refine lv_iconst (v := 1) hx hb dX11_told_24 (by decide) ?_
        refine lv_goto (tgt := 29) hx hb dX11_told_25 (by decide) ?_
        exact wX11_told_29 X hf hR (lv_sub hl [] rfl)
theorem ctX11_told {l : Launch} {E : Ge} {b : Bool} {M : Mem} {r : Int32} {M1 : Mem} (h : fX11_told M = some (r, M1)) : CT l E yX11_told cX11_told 1 (some .boolean) 9 0 0 [.ref (eB E + 47)] (some (.int r)) (sh_ b) (nn b) M (sh_ b) (nn b) M1 := by
  refine met_of (by decide) (Nat.le_of_ble_eq_true rfl) ?_
  intro p e s m args below meth c X _ hR ls hl
  exact wX11_told_0 X h hR hl
def fX11_reads_71 (k94 : Int32 → Mem → Option Mem) : Nat → Int32 → Mem → Option Mem
  | 0, _, _ => none
  | n + 1, x1, M => (if x1 = 0 then k94 x1 M else (if (M.1 47 1) ≤ (M.1 47 2) then k94 x1 M else (fX11_told M).bind (fun q87 => nx (q87.1) (fun v90 => fX11_reads_71 k94 n v90 (q87.2)))))
def fX11_reads_115 (M : Mem) : Option Mem := some M
def fX11_reads_94 (x1 : Int32) (M : Mem) : Option Mem := (if x1 = 0 then fX11_reads_115 M else (if (M.1 73 (ix (1 : Int32))) = 0 then nx (sI M 47 4 (M.1 47 1)) (fun M112 => fX11_reads_115 M112) else fX11_reads_115 M))
def fX11_reads (M : Mem) : Option Mem := nx (sI M 47 4 (-1 : Int32)) (fun M2 => nx (sI M2 73 (ix (1 : Int32)) (0 : Int32)) (fun M11 => nx (sI M11 74 (ix (1 : Int32)) (0 : Int32)) (fun M18 => nx (sI M18 75 (ix (1 : Int32)) (0 : Int32)) (fun M25 => nx (sI M25 76 (ix (1 : Int32)) (1 : Int32)) (fun M32 => nx (sI M32 77 (ix (1 : Int32)) (2 : Int32)) (fun M39 => nx (sI M39 47 19 (0 : Int32)) (fun M42 => nx (sI M42 47 20 (1 : Int32)) (fun M47 => nx (sI M47 47 21 (1 : Int32)) (fun M52 => nx (sI M52 47 22 (0 : Int32)) (fun M57 => nx (sI M57 47 2 (0 : Int32)) (fun M62 => (fX11_skips M62).bind (fun q66 => fX11_reads_71 fX11_reads_94 FU (1 : Int32) q66))))))))))))
set_option maxHeartbeats 4000000 in
set_option maxRecDepth 100000 in
theorem wX11_reads_71 {M1 : Mem} {k94 : Int32 → Mem → Option Mem} (X : CX E p s m args c meth cX11_reads 2 none RX11) (hk94 : ∀ {x1 : Int32} {M : Mem} {H : Heap} {locs : List Loc} {ls : Array Slot}, k94 x1 M = some M1 → Rl E (sh_ b) (nn b) s.heap M H locs → lv_has ls 2 [(0, .ref (eB E + 47)), (1, .int x1)] → W p l e (rm 10 0 0) s m args below meth c H locs 0 0 (MQ below (qq E none (sh_ b) (nn b) M1) args s 0 0 (fr E)) (F0 m 94 ls [])) : ∀ (n : Nat) {x1 : Int32} {M : Mem} {H : Heap} {locs : List Loc} {ls : Array Slot}, fX11_reads_71 k94 n x1 M = some M1 → Rl E (sh_ b) (nn b) s.heap M H locs → lv_has ls 2 [(0, .ref (eB E + 47)), (1, .int x1)] → W p l e (rm 10 0 0) s m args below meth c H locs 0 0 (MQ below (qq E none (sh_ b) (nn b) M1) args s 0 0 (fr E)) (F0 m 71 ls []) := by
  obtain ⟨hx, hb, hr, hml, hown, hts, hK, hN, hO, hlk, hbs⟩ := id X
  intro n
  induction n with
  | zero =>
    intro x1 M H locs ls hf hR hl
    exact absurd (show none = some _ from hf) (fun h => by cases h)
  | succ n ih =>
    intro x1 M H locs ls hf hR hl
    rw [fX11_reads_71] at hf
    refine lv_iload_n hx hb dX11_reads_71 rfl (lv_at hl 1 rfl) ?_
    refine lv_if_eq (tgt := 94) hx hb dX11_reads_72 (by decide) (fun q72 => ?_) (fun q72 => ?_)
    · have hf := (br_if hf).1 q72
      exact hk94 hf hR hl
    · have hf := (br_if hf).2 q72
      refine lv_aload_n hx hb dX11_reads_75 rfl (lv_at hl 0 rfl) ?_
      refine x_get hx hb hown hts hK hR kX11 (z_47 b) (j := 2) (by decide) fl_X11_126 (v := .int (M.1 47 2)) rfl dX11_reads_76 ?_
      refine lv_aload_n hx hb dX11_reads_79 rfl (lv_at hl 0 rfl) ?_
      refine x_get hx hb hown hts hK hR kX11 (z_47 b) (j := 1) (by decide) fl_X11_114 (v := .int (M.1 47 1)) rfl dX11_reads_80 ?_
      refine lv_icmp_ge (tgt := 94) hx hb dX11_reads_83 (by decide) (fun q83 => ?_) (fun q83 => ?_)
      · have hf := (br_if hf).1 q83
        exact hk94 hf hR hl
      · have hf := (br_if hf).2 q83
        refine lv_aload_n hx hb dX11_reads_86 rfl (lv_at hl 0 rfl) ?_
        obtain ⟨q87, c87, hf⟩ := br_b hf
        refine x_callV (k := 47) (As := []) (rest := []) (st1 := [.int q87.1]) X hR (ctX11_told c87) ml_X11_225 im_X11_told se_X11_told in_X11 co_X11_told yo_X11_told rfl kX11 (z_47 b) (rm_ok (by decide) (by decide)) rfl hl.1 rfl rfl (Nat.le_of_ble_eq_true rfl) dX11_reads_87 ⟨Nat.zero_le _, Nat.zero_le _⟩ (fun H locs hR => ?_)
        refine lv_topi (fun v90 e90 => ?_)
        have hf := nx_at e90 hf
        refine lv_istore_n (lv' := [(1, .int v90), (0, .ref (eB E + 47))]) hx hb dX11_reads_90 rfl hl (by decide) rfl (fun ls hl => ?_)
        refine lv_goto (tgt := 71) hx hb dX11_reads_91 (by decide) ?_
        exact ih hf hR (lv_sub hl [1, 0] rfl)
set_option maxHeartbeats 4000000 in
set_option maxRecDepth 100000 in
theorem wX11_reads_115 {M1 : Mem} (X : CX E p s m args c meth cX11_reads 2 none RX11) : ∀ {M : Mem} {H : Heap} {locs : List Loc} {ls : Array Slot}, fX11_reads_115 M = some M1 → Rl E (sh_ b) (nn b) s.heap M H locs → lv_has ls 2 [] → W p l e (rm 10 0 0) s m args below meth c H locs 0 0 (MQ below (qq E none (sh_ b) (nn b) M1) args s 0 0 (fr E)) (F0 m 115 ls []) := by
  obtain ⟨hx, hb, hr, hml, hown, hts, hK, hN, hO, hlk, hbs⟩ := id X
  intro M H locs ls hf hR hl
  unfold fX11_reads_115 at hf
  cases hf
  exact x_vret hx hb hr hlk hR dX11_reads_115
set_option maxHeartbeats 4000000 in
set_option maxRecDepth 100000 in
theorem wX11_reads_94 {M1 : Mem} (X : CX E p s m args c meth cX11_reads 2 none RX11) : ∀ {x1 : Int32} {M : Mem} {H : Heap} {locs : List Loc} {ls : Array Slot}, fX11_reads_94 x1 M = some M1 → Rl E (sh_ b) (nn b) s.heap M H locs → lv_has ls 2 [(0, .ref (eB E + 47)), (1, .int x1)] → W p l e (rm 10 0 0) s m args below meth c H locs 0 0 (MQ below (qq E none (sh_ b) (nn b) M1) args s 0 0 (fr E)) (F0 m 94 ls []) := by
  obtain ⟨hx, hb, hr, hml, hown, hts, hK, hN, hO, hlk, hbs⟩ := id X
  intro x1 M H locs ls hf hR hl
  unfold fX11_reads_94 at hf
  refine lv_iload_n hx hb dX11_reads_94 rfl (lv_at hl 1 rfl) ?_
  refine lv_if_eq (tgt := 115) hx hb dX11_reads_95 (by decide) (fun q95 => ?_) (fun q95 => ?_)
  · have hf := (br_if hf).1 q95
    exact wX11_reads_115 X hf hR (lv_sub hl [] rfl)
  · have hf := (br_if hf).2 q95
    refine lv_aload_n hx hb dX11_reads_98 rfl (lv_at hl 0 rfl) ?_
    refine x_get hx hb hown hts hK hR kX11 (z_47 b) (j := 14) (by decide) fl_X11_39 (v := .ref (eB E + 73)) rfl dX11_reads_99 ?_
    refine lv_iconst (v := 1) hx hb dX11_reads_102 (by decide) ?_
    refine x_iald hx hb hK hR (z_73 b) (by decide) dX11_reads_103 ?_
    refine lv_if_ne (tgt := 115) hx hb dX11_reads_104 (by decide) (fun q104 => ?_) (fun q104 => ?_)
    · have hf := (br_if hf).2 q104
      exact wX11_reads_115 X hf hR (lv_sub hl [] rfl)
    · have hf := (br_if hf).1 q104
      refine lv_aload_n hx hb dX11_reads_107 rfl (lv_at hl 0 rfl) ?_
      refine lv_aload_n hx hb dX11_reads_108 rfl (lv_at hl 0 rfl) ?_
      refine x_get hx hb hown hts hK hR kX11 (z_47 b) (j := 1) (by decide) fl_X11_114 (v := .int (M.1 47 1)) rfl dX11_reads_109 ?_
      refine x_puti hx hb hown hts hK hR kX11 (z_47 b) (j := 4) (by decide) fl_X11_147 rfl rfl rfl rfl dX11_reads_112 (fun H locs hR => ?_)
      obtain ⟨M112, e112⟩ : ∃ y : Mem, y = (sI M 47 4 (M.1 47 1)) := ⟨_, rfl⟩
      have hf := nx_at e112 hf
      have hR : Rl E (sh_ b) (nn b) s.heap M112 H locs := by rw [e112]; exact hR
      exact wX11_reads_115 X hf hR (lv_sub hl [] rfl)
set_option maxHeartbeats 4000000 in
set_option maxRecDepth 100000 in
theorem wX11_reads_0 {M1 : Mem} (X : CX E p s m args c meth cX11_reads 2 none RX11) : ∀ {M : Mem} {H : Heap} {locs : List Loc} {ls : Array Slot}, fX11_reads M = some M1 → Rl E (sh_ b) (nn b) s.heap M H locs → lv_has ls 2 [(0, .ref (eB E + 47))] → W p l e (rm 10 0 0) s m args below meth c H locs 0 0 (MQ below (qq E none (sh_ b) (nn b) M1) args s 0 0 (fr E)) (F0 m 0 ls []) := by
  obtain ⟨hx, hb, hr, hml, hown, hts, hK, hN, hO, hlk, hbs⟩ := id X
  intro M H locs ls hf hR hl
  unfold fX11_reads at hf
  refine lv_aload_n hx hb dX11_reads_0 rfl (lv_at hl 0 rfl) ?_
  refine lv_iconst (v := -1) hx hb dX11_reads_1 (by decide) ?_
  refine x_puti hx hb hown hts hK hR kX11 (z_47 b) (j := 4) (by decide) fl_X11_147 rfl rfl rfl rfl dX11_reads_2 (fun H locs hR => ?_)
  obtain ⟨M2, e2⟩ : ∃ y : Mem, y = (sI M 47 4 (-1 : Int32)) := ⟨_, rfl⟩
  have hf := nx_at e2 hf
  have hR : Rl E (sh_ b) (nn b) s.heap M2 H locs := by rw [e2]; exact hR
  refine lv_aload_n hx hb dX11_reads_5 rfl (lv_at hl 0 rfl) ?_
  refine x_get hx hb hown hts hK hR kX11 (z_47 b) (j := 14) (by decide) fl_X11_39 (v := .ref (eB E + 73)) rfl dX11_reads_6 ?_
  refine lv_iconst (v := 1) hx hb dX11_reads_9 (by decide) ?_
  refine lv_iconst (v := 0) hx hb dX11_reads_10 (by decide) ?_
  refine x_iast hx hb hK hR (z_73 b) (by decide) dX11_reads_11 (fun H locs hR => ?_)
  obtain ⟨M11, e11⟩ : ∃ y : Mem, y = (sI M2 73 (ix (1 : Int32)) (0 : Int32)) := ⟨_, rfl⟩
  have hf := nx_at e11 hf
  have hR : Rl E (sh_ b) (nn b) s.heap M11 H locs := by rw [e11]; exact hR
  refine lv_aload_n hx hb dX11_reads_12 rfl (lv_at hl 0 rfl) ?_
  refine x_get hx hb hown hts hK hR kX11 (z_47 b) (j := 15) (by decide) fl_X11_43 (v := .ref (eB E + 74)) rfl dX11_reads_13 ?_
  refine lv_iconst (v := 1) hx hb dX11_reads_16 (by decide) ?_
  refine lv_iconst (v := 0) hx hb dX11_reads_17 (by decide) ?_
  refine x_iast hx hb hK hR (z_74 b) (by decide) dX11_reads_18 (fun H locs hR => ?_)
  obtain ⟨M18, e18⟩ : ∃ y : Mem, y = (sI M11 74 (ix (1 : Int32)) (0 : Int32)) := ⟨_, rfl⟩
  have hf := nx_at e18 hf
  have hR : Rl E (sh_ b) (nn b) s.heap M18 H locs := by rw [e18]; exact hR
  refine lv_aload_n hx hb dX11_reads_19 rfl (lv_at hl 0 rfl) ?_
  refine x_get hx hb hown hts hK hR kX11 (z_47 b) (j := 16) (by decide) fl_X11_46 (v := .ref (eB E + 75)) rfl dX11_reads_20 ?_
  refine lv_iconst (v := 1) hx hb dX11_reads_23 (by decide) ?_
  refine lv_iconst (v := 0) hx hb dX11_reads_24 (by decide) ?_
  refine x_iast hx hb hK hR (z_75 b) (by decide) dX11_reads_25 (fun H locs hR => ?_)
  obtain ⟨M25, e25⟩ : ∃ y : Mem, y = (sI M18 75 (ix (1 : Int32)) (0 : Int32)) := ⟨_, rfl⟩
  have hf := nx_at e25 hf
  have hR : Rl E (sh_ b) (nn b) s.heap M25 H locs := by rw [e25]; exact hR
  refine lv_aload_n hx hb dX11_reads_26 rfl (lv_at hl 0 rfl) ?_
  refine x_get hx hb hown hts hK hR kX11 (z_47 b) (j := 17) (by decide) fl_X11_49 (v := .ref (eB E + 76)) rfl dX11_reads_27 ?_
  refine lv_iconst (v := 1) hx hb dX11_reads_30 (by decide) ?_
  refine lv_iconst (v := 1) hx hb dX11_reads_31 (by decide) ?_
  refine x_iast hx hb hK hR (z_76 b) (by decide) dX11_reads_32 (fun H locs hR => ?_)
  obtain ⟨M32, e32⟩ : ∃ y : Mem, y = (sI M25 76 (ix (1 : Int32)) (1 : Int32)) := ⟨_, rfl⟩
  have hf := nx_at e32 hf
  have hR : Rl E (sh_ b) (nn b) s.heap M32 H locs := by rw [e32]; exact hR
  refine lv_aload_n hx hb dX11_reads_33 rfl (lv_at hl 0 rfl) ?_
  refine x_get hx hb hown hts hK hR kX11 (z_47 b) (j := 18) (by decide) fl_X11_52 (v := .ref (eB E + 77)) rfl dX11_reads_34 ?_
  refine lv_iconst (v := 1) hx hb dX11_reads_37 (by decide) ?_
  refine lv_iconst (v := 2) hx hb dX11_reads_38 (by decide) ?_
  refine x_iast hx hb hK hR (z_77 b) (by decide) dX11_reads_39 (fun H locs hR => ?_)
  obtain ⟨M39, e39⟩ : ∃ y : Mem, y = (sI M32 77 (ix (1 : Int32)) (2 : Int32)) := ⟨_, rfl⟩
  have hf := nx_at e39 hf
  have hR : Rl E (sh_ b) (nn b) s.heap M39 H locs := by rw [e39]; exact hR
  refine lv_aload_n hx hb dX11_reads_40 rfl (lv_at hl 0 rfl) ?_
  refine lv_iconst (v := 0) hx hb dX11_reads_41 (by decide) ?_
  refine x_puti hx hb hown hts hK hR kX11 (z_47 b) (j := 19) (by decide) fl_X11_164 rfl rfl rfl rfl dX11_reads_42 (fun H locs hR => ?_)
  obtain ⟨M42, e42⟩ : ∃ y : Mem, y = (sI M39 47 19 (0 : Int32)) := ⟨_, rfl⟩
  have hf := nx_at e42 hf
  have hR : Rl E (sh_ b) (nn b) s.heap M42 H locs := by rw [e42]; exact hR
  refine lv_aload_n hx hb dX11_reads_45 rfl (lv_at hl 0 rfl) ?_
  refine lv_iconst (v := 1) hx hb dX11_reads_46 (by decide) ?_
  refine x_puti hx hb hown hts hK hR kX11 (z_47 b) (j := 20) (by decide) fl_X11_174 rfl rfl rfl rfl dX11_reads_47 (fun H locs hR => ?_)
  obtain ⟨M47, e47⟩ : ∃ y : Mem, y = (sI M42 47 20 (1 : Int32)) := ⟨_, rfl⟩
  have hf := nx_at e47 hf
  have hR : Rl E (sh_ b) (nn b) s.heap M47 H locs := by rw [e47]; exact hR
  refine lv_aload_n hx hb dX11_reads_50 rfl (lv_at hl 0 rfl) ?_
  refine lv_iconst (v := 1) hx hb dX11_reads_51 (by decide) ?_
  refine x_puti hx hb hown hts hK hR kX11 (z_47 b) (j := 21) (by decide) fl_X11_177 rfl rfl rfl rfl dX11_reads_52 (fun H locs hR => ?_)
  obtain ⟨M52, e52⟩ : ∃ y : Mem, y = (sI M47 47 21 (1 : Int32)) := ⟨_, rfl⟩
  have hf := nx_at e52 hf
  have hR : Rl E (sh_ b) (nn b) s.heap M52 H locs := by rw [e52]; exact hR
  refine lv_aload_n hx hb dX11_reads_55 rfl (lv_at hl 0 rfl) ?_
  refine lv_iconst (v := 0) hx hb dX11_reads_56 (by decide) ?_
  refine x_puti hx hb hown hts hK hR kX11 (z_47 b) (j := 22) (by decide) fl_X11_182 rfl rfl rfl rfl dX11_reads_57 (fun H locs hR => ?_)
  obtain ⟨M57, e57⟩ : ∃ y : Mem, y = (sI M52 47 22 (0 : Int32)) := ⟨_, rfl⟩
  have hf := nx_at e57 hf
  have hR : Rl E (sh_ b) (nn b) s.heap M57 H locs := by rw [e57]; exact hR
  refine lv_aload_n hx hb dX11_reads_60 rfl (lv_at hl 0 rfl) ?_
  refine lv_iconst (v := 0) hx hb dX11_reads_61 (by decide) ?_
  refine x_puti hx hb hown hts hK hR kX11 (z_47 b) (j := 2) (by decide) fl_X11_126 rfl rfl rfl rfl dX11_reads_62 (fun H locs hR => ?_)
  obtain ⟨M62, e62⟩ : ∃ y : Mem, y = (sI M57 47 2 (0 : Int32)) := ⟨_, rfl⟩
  have hf := nx_at e62 hf
  have hR : Rl E (sh_ b) (nn b) s.heap M62 H locs := by rw [e62]; exact hR
  refine lv_aload_n hx hb dX11_reads_65 rfl (lv_at hl 0 rfl) ?_
  obtain ⟨q66, c66, hf⟩ := br_b hf
  refine x_callV (k := 47) (As := []) (rest := []) (st1 := []) X hR (ctX11_skips c66) ml_X11_150 im_X11_skips se_X11_skips in_X11 co_X11_skips yo_X11_skips rfl kX11 (z_47 b) (rm_ok (by decide) (by decide)) rfl hl.1 rfl rfl (Nat.le_of_ble_eq_true rfl) dX11_reads_66 ⟨Nat.zero_le _, Nat.zero_le _⟩ (fun H locs hR => ?_)
  refine lv_iconst (v := 1) hx hb dX11_reads_69 (by decide) ?_
  refine lv_istore_n (lv' := [(1, .int (1 : Int32)), (0, .ref (eB E + 47))]) hx hb dX11_reads_70 rfl hl (by decide) rfl (fun ls hl => ?_)
  exact wX11_reads_71 X (fun hf hR hl => wX11_reads_94 X hf hR hl) FU hf hR (lv_sub hl [1, 0] rfl)
theorem ctX11_reads {l : Launch} {E : Ge} {b : Bool} {M : Mem} {M1 : Mem} (h : fX11_reads M = some M1) : CT l E yX11_reads cX11_reads 2 none 10 0 0 [.ref (eB E + 47)] none (sh_ b) (nn b) M (sh_ b) (nn b) M1 := by
  refine met_of (by decide) (Nat.le_of_ble_eq_true rfl) ?_
  intro p e s m args below meth c X _ hR ls hl
  exact wX11_reads_0 X h hR hl
def fX11_fault (M : Mem) : Option (Int32 × Mem) := (fX11_reads M).bind (fun q1 => some ((q1.1 47 4), q1))
set_option maxHeartbeats 4000000 in
set_option maxRecDepth 100000 in
theorem wX11_fault_0 {r : Int32} {M1 : Mem} (X : CX E p s m args c meth cX11_fault 1 (some .int) RX11) : ∀ {M : Mem} {H : Heap} {locs : List Loc} {ls : Array Slot}, fX11_fault M = some (r, M1) → Rl E (sh_ b) (nn b) s.heap M H locs → lv_has ls 1 [(0, .ref (eB E + 47))] → W p l e (rm 11 0 0) s m args below meth c H locs 0 0 (MQ below (qq E (some (.int r)) (sh_ b) (nn b) M1) args s 0 0 (fr E)) (F0 m 0 ls []) := by
  obtain ⟨hx, hb, hr, hml, hown, hts, hK, hN, hO, hlk, hbs⟩ := id X
  intro M H locs ls hf hR hl
  unfold fX11_fault at hf
  refine lv_aload_n hx hb dX11_fault_0 rfl (lv_at hl 0 rfl) ?_
  obtain ⟨q1, c1, hf⟩ := br_b hf
  refine x_callV (k := 47) (As := []) (rest := []) (st1 := []) X hR (ctX11_reads c1) ml_X11_228 im_X11_reads se_X11_reads in_X11 co_X11_reads yo_X11_reads rfl kX11 (z_47 b) (rm_ok (by decide) (by decide)) rfl hl.1 rfl rfl (Nat.le_of_ble_eq_true rfl) dX11_fault_1 ⟨Nat.zero_le _, Nat.zero_le _⟩ (fun H locs hR => ?_)
  refine lv_aload_n hx hb dX11_fault_4 rfl (lv_at hl 0 rfl) ?_
  refine x_get hx hb hown hts hK hR kX11 (z_47 b) (j := 4) (by decide) fl_X11_147 (v := .int (q1.1 47 4)) rfl dX11_fault_5 ?_
  cases hf
  exact x_iret hx hb hr hlk hR dX11_fault_8
theorem ctX11_fault {l : Launch} {E : Ge} {b : Bool} {M : Mem} {r : Int32} {M1 : Mem} (h : fX11_fault M = some (r, M1)) : CT l E yX11_fault cX11_fault 1 (some .int) 11 0 0 [.ref (eB E + 47)] (some (.int r)) (sh_ b) (nn b) M (sh_ b) (nn b) M1 := by
  refine met_of (by decide) (Nat.le_of_ble_eq_true rfl) ?_
  intro p e s m args below meth c X _ hR ls hl
  exact wX11_fault_0 X h hR hl
def fX11_feeds_2 (k38 : Mem → Option Mem) : Nat → Int32 → Int32 → Mem → Option Mem
  | 0, _, _, _ => none
  | n + 1, x1, x2, M => (if x2 < 0 then k38 M else (if inb (M.1 47 1) 600 = true then nx (sI M 48 (ix (M.1 47 1)) (ush x1 ((8 : Int32) * x2)).toInt8.toInt32.toInt8.toInt32) (fun M21 => nx (sI M21 47 1 ((M21.1 47 1) + (1 : Int32))) (fun M29 => nx (x2 + (-1 : Int32)) (fun v32 => fX11_feeds_2 k38 n x1 v32 M29))) else none))
def fX11_feeds_38 (M : Mem) : Option Mem := some M
def fX11_feeds (x1 : Int32) (M : Mem) : Option Mem := fX11_feeds_2 fX11_feeds_38 FU x1 (3 : Int32) M
set_option maxHeartbeats 4000000 in
set_option maxRecDepth 100000 in
theorem wX11_feeds_2 {M1 : Mem} {k38 : Mem → Option Mem} (X : CX E p s m args c meth cX11_feeds 3 none RX11) (hk38 : ∀ {M : Mem} {H : Heap} {locs : List Loc} {ls : Array Slot}, k38 M = some M1 → Rl E (sh_ b) (nn b) s.heap M H locs → lv_has ls 3 [] → W p l e (rm 1 0 0) s m args below meth c H locs 0 0 (MQ below (qq E none (sh_ b) (nn b) M1) args s 0 0 (fr E)) (F0 m 38 ls [])) : ∀ (n : Nat) {x1 : Int32} {x2 : Int32} {M : Mem} {H : Heap} {locs : List Loc} {ls : Array Slot}, fX11_feeds_2 k38 n x1 x2 M = some M1 → Rl E (sh_ b) (nn b) s.heap M H locs → lv_has ls 3 [(0, .ref (eB E + 47)), (1, .int x1), (2, .int x2)] → W p l e (rm 1 0 0) s m args below meth c H locs 0 0 (MQ below (qq E none (sh_ b) (nn b) M1) args s 0 0 (fr E)) (F0 m 2 ls []) := by
  obtain ⟨hx, hb, hr, hml, hown, hts, hK, hN, hO, hlk, hbs⟩ := id X
  intro n
  induction n with
  | zero =>
    intro x1 x2 M H locs ls hf hR hl
    exact absurd (show none = some _ from hf) (fun h => by cases h)
  | succ n ih =>
    intro x1 x2 M H locs ls hf hR hl
    rw [fX11_feeds_2] at hf
    refine lv_iload_n hx hb dX11_feeds_2 rfl (lv_at hl 2 rfl) ?_
    refine lv_if_lt (tgt := 38) hx hb dX11_feeds_3 (by decide) (fun q3 => ?_) (fun q3 => ?_)
    · have hf := (br_if hf).1 q3
      exact hk38 hf hR (lv_sub hl [] rfl)
    · have hf := (br_if hf).2 q3
      refine lv_aload_n hx hb dX11_feeds_6 rfl (lv_at hl 0 rfl) ?_
      refine x_get hx hb hown hts hK hR kX11 (z_47 b) (j := 0) (by decide) fl_X11_9 (v := .ref (eB E + 48)) rfl dX11_feeds_7 ?_
      refine lv_aload_n hx hb dX11_feeds_10 rfl (lv_at hl 0 rfl) ?_
      refine x_get hx hb hown hts hK hR kX11 (z_47 b) (j := 1) (by decide) fl_X11_114 (v := .int (M.1 47 1)) rfl dX11_feeds_11 ?_
      refine lv_iload_n hx hb dX11_feeds_14 rfl (lv_at hl 1 rfl) ?_
      refine lv_bipush (v := 8) hx hb dX11_feeds_15 (by decide) ?_
      refine lv_iload_n hx hb dX11_feeds_17 rfl (lv_at hl 2 rfl) ?_
      refine lv_imul hx hb dX11_feeds_18 ?_
      refine lv_iushr (v := (ush x1 ((8 : Int32) * x2))) hx hb dX11_feeds_19 rfl ?_
      refine lv_i2b (v := (ush x1 ((8 : Int32) * x2)).toInt8.toInt32) hx hb dX11_feeds_20 rfl ?_
      obtain ⟨g21, hf⟩ := br_g hf
      refine x_bast hx hb hK hR (z_48 b) g21 dX11_feeds_21 (fun H locs hR => ?_)
      obtain ⟨M21, e21⟩ : ∃ y : Mem, y = (sI M 48 (ix (M.1 47 1)) (ush x1 ((8 : Int32) * x2)).toInt8.toInt32.toInt8.toInt32) := ⟨_, rfl⟩
      have hf := nx_at e21 hf
      have hR : Rl E (sh_ b) (nn b) s.heap M21 H locs := by rw [e21]; exact hR
      refine lv_aload_n hx hb dX11_feeds_22 rfl (lv_at hl 0 rfl) ?_
      refine lv_dup hx hb dX11_feeds_23 rfl ?_
      refine x_get hx hb hown hts hK hR kX11 (z_47 b) (j := 1) (by decide) fl_X11_114 (v := .int (M21.1 47 1)) rfl dX11_feeds_24 ?_
      refine lv_iconst (v := 1) hx hb dX11_feeds_27 (by decide) ?_
      refine lv_iadd hx hb dX11_feeds_28 ?_
      refine x_puti hx hb hown hts hK hR kX11 (z_47 b) (j := 1) (by decide) fl_X11_114 rfl rfl rfl rfl dX11_feeds_29 (fun H locs hR => ?_)
      obtain ⟨M29, e29⟩ : ∃ y : Mem, y = (sI M21 47 1 ((M21.1 47 1) + (1 : Int32))) := ⟨_, rfl⟩
      have hf := nx_at e29 hf
      have hR : Rl E (sh_ b) (nn b) s.heap M29 H locs := by rw [e29]; exact hR
      obtain ⟨v32, e32⟩ : ∃ y : Int32, y = (x2 + (-1 : Int32)) := ⟨_, rfl⟩
      have hf := nx_at e32 hf
      refine lv_iinc (v := v32) (lv' := [(2, .int v32), (0, .ref (eB E + 47)), (1, .int x1)]) hx hb dX11_feeds_32 hl (k := 2) rfl (by rw [e32]; rfl) (by decide) rfl (fun ls hl => ?_)
      refine lv_goto (tgt := 2) hx hb dX11_feeds_35 (by decide) ?_
      exact ih hf hR (lv_sub hl [1, 2, 0] rfl)
set_option maxHeartbeats 4000000 in
set_option maxRecDepth 100000 in
theorem wX11_feeds_38 {M1 : Mem} (X : CX E p s m args c meth cX11_feeds 3 none RX11) : ∀ {M : Mem} {H : Heap} {locs : List Loc} {ls : Array Slot}, fX11_feeds_38 M = some M1 → Rl E (sh_ b) (nn b) s.heap M H locs → lv_has ls 3 [] → W p l e (rm 1 0 0) s m args below meth c H locs 0 0 (MQ below (qq E none (sh_ b) (nn b) M1) args s 0 0 (fr E)) (F0 m 38 ls []) := by
  obtain ⟨hx, hb, hr, hml, hown, hts, hK, hN, hO, hlk, hbs⟩ := id X
  intro M H locs ls hf hR hl
  unfold fX11_feeds_38 at hf
  cases hf
  exact x_vret hx hb hr hlk hR dX11_feeds_38
set_option maxHeartbeats 4000000 in
set_option maxRecDepth 100000 in
theorem wX11_feeds_0 {M1 : Mem} (X : CX E p s m args c meth cX11_feeds 3 none RX11) : ∀ {x1 : Int32} {M : Mem} {H : Heap} {locs : List Loc} {ls : Array Slot}, fX11_feeds x1 M = some M1 → Rl E (sh_ b) (nn b) s.heap M H locs → lv_has ls 3 [(0, .ref (eB E + 47)), (1, .int x1)] → W p l e (rm 1 0 0) s m args below meth c H locs 0 0 (MQ below (qq E none (sh_ b) (nn b) M1) args s 0 0 (fr E)) (F0 m 0 ls []) := by
  obtain ⟨hx, hb, hr, hml, hown, hts, hK, hN, hO, hlk, hbs⟩ := id X
  intro x1 M H locs ls hf hR hl
  unfold fX11_feeds at hf
  refine lv_iconst (v := 3) hx hb dX11_feeds_0 (by decide) ?_
  refine lv_istore_n (lv' := [(2, .int (3 : Int32)), (0, .ref (eB E + 47)), (1, .int x1)]) hx hb dX11_feeds_1 rfl hl (by decide) rfl (fun ls hl => ?_)
  exact wX11_feeds_2 X (fun hf hR hl => wX11_feeds_38 X hf hR hl) FU hf hR (lv_sub hl [1, 2, 0] rfl)
theorem ctX11_feeds {l : Launch} {E : Ge} {b : Bool} {M : Mem} {x1 : Int32} {M1 : Mem} (h : fX11_feeds x1 M = some M1) : CT l E yX11_feeds cX11_feeds 3 none 1 0 0 [.ref (eB E + 47), .int x1] none (sh_ b) (nn b) M (sh_ b) (nn b) M1 := by
  refine met_of (by decide) (Nat.le_of_ble_eq_true rfl) ?_
  intro p e s m args below meth c X _ hR ls hl
  exact wX11_feeds_0 X h hR hl
def fX11_feed (x1 : Int32) (x2 : Int32) (x3 : Int32) (x4 : Int32) (x5 : Int32) (M : Mem) : Option (Int32 × Mem) := (if ((M.1 47 1) + (20 : Int32)) ≤ (600 : Int32) then (fX11_feeds x1 M).bind (fun q17 => (fX11_feeds x2 q17).bind (fun q22 => (fX11_feeds x3 q22).bind (fun q27 => (fX11_feeds x4 q27).bind (fun q33 => (fX11_feeds x5 q33).bind (fun q39 => some ((q39.1 47 1), q39)))))) else some ((-1 : Int32), M))
set_option maxHeartbeats 4000000 in
set_option maxRecDepth 100000 in
theorem wX11_feed_0 {r : Int32} {M1 : Mem} (X : CX E p s m args c meth cX11_feed 6 (some .int) RX11) : ∀ {x1 : Int32} {x2 : Int32} {x3 : Int32} {x4 : Int32} {x5 : Int32} {M : Mem} {H : Heap} {locs : List Loc} {ls : Array Slot}, fX11_feed x1 x2 x3 x4 x5 M = some (r, M1) → Rl E (sh_ b) (nn b) s.heap M H locs → lv_has ls 6 [(0, .ref (eB E + 47)), (1, .int x1), (2, .int x2), (3, .int x3), (4, .int x4), (5, .int x5)] → W p l e (rm 2 0 0) s m args below meth c H locs 0 0 (MQ below (qq E (some (.int r)) (sh_ b) (nn b) M1) args s 0 0 (fr E)) (F0 m 0 ls []) := by
  obtain ⟨hx, hb, hr, hml, hown, hts, hK, hN, hO, hlk, hbs⟩ := id X
  intro x1 x2 x3 x4 x5 M H locs ls hf hR hl
  unfold fX11_feed at hf
  refine lv_aload_n hx hb dX11_feed_0 rfl (lv_at hl 0 rfl) ?_
  refine x_get hx hb hown hts hK hR kX11 (z_47 b) (j := 1) (by decide) fl_X11_114 (v := .int (M.1 47 1)) rfl dX11_feed_1 ?_
  refine lv_bipush (v := 20) hx hb dX11_feed_4 (by decide) ?_
  refine lv_iadd hx hb dX11_feed_6 ?_
  refine lv_sipush (v := 600) hx hb dX11_feed_7 (by decide) ?_
  refine lv_icmp_le (tgt := 15) hx hb dX11_feed_10 (by decide) (fun q10 => ?_) (fun q10 => ?_)
  · have hf := (br_if hf).1 q10
    refine lv_aload_n hx hb dX11_feed_15 rfl (lv_at hl 0 rfl) ?_
    refine lv_iload_n hx hb dX11_feed_16 rfl (lv_at hl 1 rfl) ?_
    obtain ⟨q17, c17, hf⟩ := br_b hf
    refine x_callV (k := 47) (As := [.int x1]) (rest := []) (st1 := []) X hR (ctX11_feeds c17) ml_X11_118 im_X11_feeds se_X11_feeds in_X11 co_X11_feeds yo_X11_feeds rfl kX11 (z_47 b) (rm_ok (by decide) (by decide)) rfl hl.1 rfl rfl (Nat.le_of_ble_eq_true rfl) dX11_feed_17 ⟨Nat.zero_le _, Nat.zero_le _⟩ (fun H locs hR => ?_)
    refine lv_aload_n hx hb dX11_feed_20 rfl (lv_at hl 0 rfl) ?_
    refine lv_iload_n hx hb dX11_feed_21 rfl (lv_at hl 2 rfl) ?_
    obtain ⟨q22, c22, hf⟩ := br_b hf
    refine x_callV (k := 47) (As := [.int x2]) (rest := []) (st1 := []) X hR (ctX11_feeds c22) ml_X11_118 im_X11_feeds se_X11_feeds in_X11 co_X11_feeds yo_X11_feeds rfl kX11 (z_47 b) (rm_ok (by decide) (by decide)) rfl hl.1 rfl rfl (Nat.le_of_ble_eq_true rfl) dX11_feed_22 ⟨Nat.zero_le _, Nat.zero_le _⟩ (fun H locs hR => ?_)
    refine lv_aload_n hx hb dX11_feed_25 rfl (lv_at hl 0 rfl) ?_
    refine lv_iload_n hx hb dX11_feed_26 rfl (lv_at hl 3 rfl) ?_
    obtain ⟨q27, c27, hf⟩ := br_b hf
    refine x_callV (k := 47) (As := [.int x3]) (rest := []) (st1 := []) X hR (ctX11_feeds c27) ml_X11_118 im_X11_feeds se_X11_feeds in_X11 co_X11_feeds yo_X11_feeds rfl kX11 (z_47 b) (rm_ok (by decide) (by decide)) rfl hl.1 rfl rfl (Nat.le_of_ble_eq_true rfl) dX11_feed_27 ⟨Nat.zero_le _, Nat.zero_le _⟩ (fun H locs hR => ?_)
    refine lv_aload_n hx hb dX11_feed_30 rfl (lv_at hl 0 rfl) ?_
    refine lv_iload hx hb dX11_feed_31 (lv_at hl 4 rfl) ?_
    obtain ⟨q33, c33, hf⟩ := br_b hf
    refine x_callV (k := 47) (As := [.int x4]) (rest := []) (st1 := []) X hR (ctX11_feeds c33) ml_X11_118 im_X11_feeds se_X11_feeds in_X11 co_X11_feeds yo_X11_feeds rfl kX11 (z_47 b) (rm_ok (by decide) (by decide)) rfl hl.1 rfl rfl (Nat.le_of_ble_eq_true rfl) dX11_feed_33 ⟨Nat.zero_le _, Nat.zero_le _⟩ (fun H locs hR => ?_)
    refine lv_aload_n hx hb dX11_feed_36 rfl (lv_at hl 0 rfl) ?_
    refine lv_iload hx hb dX11_feed_37 (lv_at hl 5 rfl) ?_
    obtain ⟨q39, c39, hf⟩ := br_b hf
    refine x_callV (k := 47) (As := [.int x5]) (rest := []) (st1 := []) X hR (ctX11_feeds c39) ml_X11_118 im_X11_feeds se_X11_feeds in_X11 co_X11_feeds yo_X11_feeds rfl kX11 (z_47 b) (rm_ok (by decide) (by decide)) rfl hl.1 rfl rfl (Nat.le_of_ble_eq_true rfl) dX11_feed_39 ⟨Nat.zero_le _, Nat.zero_le _⟩ (fun H locs hR => ?_)
    refine lv_aload_n hx hb dX11_feed_42 rfl (lv_at hl 0 rfl) ?_
    refine x_get hx hb hown hts hK hR kX11 (z_47 b) (j := 1) (by decide) fl_X11_114 (v := .int (q39.1 47 1)) rfl dX11_feed_43 ?_
    cases hf
    exact x_iret hx hb hr hlk hR dX11_feed_46
  · have hf := (br_if hf).2 q10
    refine lv_iconst (v := -1) hx hb dX11_feed_13 (by decide) ?_
    cases hf
    exact x_iret hx hb hr hlk hR dX11_feed_14
theorem ctX11_feed {l : Launch} {E : Ge} {b : Bool} {M : Mem} {x1 : Int32} {x2 : Int32} {x3 : Int32} {x4 : Int32} {x5 : Int32} {r : Int32} {M1 : Mem} (h : fX11_feed x1 x2 x3 x4 x5 M = some (r, M1)) : CT l E yX11_feed cX11_feed 6 (some .int) 2 0 0 [.ref (eB E + 47), .int x1, .int x2, .int x3, .int x4, .int x5] (some (.int r)) (sh_ b) (nn b) M (sh_ b) (nn b) M1 := by
  refine met_of (by decide) (Nat.le_of_ble_eq_true rfl) ?_
  intro p e s m args below meth c X _ hR ls hl
  exact wX11_feed_0 X h hR hl
def fX11_isPoint_29 (M : Mem) (s0 : Int32) : Option Int32 := some (s0 &&& 1)
def fX11_isPoint_28 (M : Mem) : Option Int32 := fX11_isPoint_29 M (0 : Int32)
def fX11_isPoint (M : Mem) (x0 : Int32) (x1 : Int32) : Option Int32 := (fX11_in M (x0.toInt64) (0 : Int64) (99 : Int64)).bind (fun q6 => (if q6 = 0 then fX11_isPoint_28 M else (fX11_in M (x1.toInt64) (0 : Int64) (99 : Int64)).bind (fun q18 => (if q18 = 0 then fX11_isPoint_28 M else fX11_isPoint_29 M (1 : Int32)))))
set_option maxHeartbeats 4000000 in
set_option maxRecDepth 100000 in
theorem wX11_isPoint_29 {r : Int32} {M : Mem} (X : CX E p s m args c meth cX11_isPoint 2 (some .boolean) RX11) : ∀ {s0 : Int32} {H : Heap} {locs : List Loc} {ls : Array Slot}, fX11_isPoint_29 M s0 = some r → Rl E (sh_ b) (nn b) s.heap M H locs → lv_has ls 2 [] → W p l e (rm 2 0 0) s m args below meth c H locs 0 0 (MQ below (qq E (some (.int r)) (sh_ b) (nn b) M) args s 0 0 (fr E)) (F0 m 29 ls [.int s0]) := by
  obtain ⟨hx, hb, hr, hml, hown, hts, hK, hN, hO, hlk, hbs⟩ := id X
  intro s0 H locs ls hf hR hl
  unfold fX11_isPoint_29 at hf
  cases hf
  exact x_zret hx hb hr hlk hR rfl dX11_isPoint_29
set_option maxHeartbeats 4000000 in
set_option maxRecDepth 100000 in
theorem wX11_isPoint_28 {r : Int32} {M : Mem} (X : CX E p s m args c meth cX11_isPoint 2 (some .boolean) RX11) : ∀ {H : Heap} {locs : List Loc} {ls : Array Slot}, fX11_isPoint_28 M = some r → Rl E (sh_ b) (nn b) s.heap M H locs → lv_has ls 2 [] → W p l e (rm 2 0 0) s m args below meth c H locs 0 0 (MQ below (qq E (some (.int r)) (sh_ b) (nn b) M) args s 0 0 (fr E)) (F0 m 28 ls []) := by
  obtain ⟨hx, hb, hr, hml, hown, hts, hK, hN, hO, hlk, hbs⟩ := id X
  intro H locs ls hf hR hl
  unfold fX11_isPoint_28 at hf
  refine lv_iconst (v := 0) hx hb dX11_isPoint_28 (by decide) ?_
  exact wX11_isPoint_29 X hf hR hl
set_option maxHeartbeats 4000000 in
set_option maxRecDepth 100000 in
theorem wX11_isPoint_0 {r : Int32} {M : Mem} (X : CX E p s m args c meth cX11_isPoint 2 (some .boolean) RX11) : ∀ {x0 : Int32} {x1 : Int32} {H : Heap} {locs : List Loc} {ls : Array Slot}, fX11_isPoint M x0 x1 = some r → Rl E (sh_ b) (nn b) s.heap M H locs → lv_has ls 2 [(0, .int x0), (1, .int x1)] → W p l e (rm 2 0 0) s m args below meth c H locs 0 0 (MQ below (qq E (some (.int r)) (sh_ b) (nn b) M) args s 0 0 (fr E)) (F0 m 0 ls []) := by
  obtain ⟨hx, hb, hr, hml, hown, hts, hK, hN, hO, hlk, hbs⟩ := id X
  intro x0 x1 H locs ls hf hR hl
  unfold fX11_isPoint at hf
  refine lv_iload_n hx hb dX11_isPoint_0 rfl (lv_at hl 0 rfl) ?_
  refine lv_i2l (v := x0.toInt64) hx hb dX11_isPoint_1 rfl ?_
  refine lv_lconst (v := 0) hx hb dX11_isPoint_2 (by decide) ?_
  refine lv_ldc2 hx hb hown (hts _ kl_X11_240) dX11_isPoint_3 ?_
  obtain ⟨q6, c6, hf⟩ := br_b hf
  refine x_callS (As := [.long x0.toInt64, .long (0 : Int64), .long (99 : Int64)]) (rest := []) (st1 := [.int q6]) X hR (ctX11_in c6) ml_X11_122 st_X11_in in_X11 co_X11_in yo_X11_in (rm_ok (by decide) (by decide)) rfl hl.1 rfl rfl (Nat.le_of_ble_eq_true rfl) dX11_isPoint_6 ⟨Nat.zero_le _, Nat.zero_le _⟩ (fun H locs hR => ?_)
  refine lv_if_eq (tgt := 28) hx hb dX11_isPoint_9 (by decide) (fun q9 => ?_) (fun q9 => ?_)
  · have hf := (br_if hf).1 q9
    exact wX11_isPoint_28 X hf hR (lv_sub hl [] rfl)
  · have hf := (br_if hf).2 q9
    refine lv_iload_n hx hb dX11_isPoint_12 rfl (lv_at hl 1 rfl) ?_
    refine lv_i2l (v := x1.toInt64) hx hb dX11_isPoint_13 rfl ?_
    refine lv_lconst (v := 0) hx hb dX11_isPoint_14 (by decide) ?_
    refine lv_ldc2 hx hb hown (hts _ kl_X11_240) dX11_isPoint_15 ?_
    obtain ⟨q18, c18, hf⟩ := br_b hf
    refine x_callS (As := [.long x1.toInt64, .long (0 : Int64), .long (99 : Int64)]) (rest := []) (st1 := [.int q18]) X hR (ctX11_in c18) ml_X11_122 st_X11_in in_X11 co_X11_in yo_X11_in (rm_ok (by decide) (by decide)) rfl hl.1 rfl rfl (Nat.le_of_ble_eq_true rfl) dX11_isPoint_18 ⟨Nat.zero_le _, Nat.zero_le _⟩ (fun H locs hR => ?_)
    refine lv_if_eq (tgt := 28) hx hb dX11_isPoint_21 (by decide) (fun q21 => ?_) (fun q21 => ?_)
    · have hf := (br_if hf).1 q21
      exact wX11_isPoint_28 X hf hR (lv_sub hl [] rfl)
    · have hf := (br_if hf).2 q21
      refine lv_iconst (v := 1) hx hb dX11_isPoint_24 (by decide) ?_
      refine lv_goto (tgt := 29) hx hb dX11_isPoint_25 (by decide) ?_
      exact wX11_isPoint_29 X hf hR (lv_sub hl [] rfl)
theorem ctX11_isPoint {l : Launch} {E : Ge} {b : Bool} {M : Mem} {x0 : Int32} {x1 : Int32} {r : Int32} (h : fX11_isPoint M x0 x1 = some r) : CT l E yX11_isPoint cX11_isPoint 2 (some .boolean) 2 0 0 [.int x0, .int x1] (some (.int r)) (sh_ b) (nn b) M (sh_ b) (nn b) M := by
  refine met_of (by decide) (Nat.le_of_ble_eq_true rfl) ?_
  intro p e s m args below meth c X _ hR ls hl
  exact wX11_isPoint_0 X h hR hl
def fX11_floods_179 (k52 : Int32 → Int32 → Int32 → Int32 → Int32 → Int32 → Mem → Option Mem) (k185 : Int32 → Int32 → Int32 → Mem → Option Mem) (x2 : Int32) (x3 : Int32) (x4 : Int32) (x5 : Int32) (x6 : Int32) (x7 : Int32) (M : Mem) : Option Mem := nx (x7 + (1 : Int32)) (fun v179 => k52 x2 x3 x4 x5 x6 v179 M)
def fX11_floods_115 (k52 : Int32 → Int32 → Int32 → Int32 → Int32 → Int32 → Mem → Option Mem) (k185 : Int32 → Int32 → Int32 → Mem → Option Mem) (x2 : Int32) (x3 : Int32) (x4 : Int32) (x5 : Int32) (x6 : Int32) (x7 : Int32) (x8 : Int32) (s0 : Int32) (M : Mem) : Option Mem := (fX11_isPoint M x8 s0).bind (fun q121 => (if q121 = 0 then fX11_floods_179 k52 k185 x2 x3 x4 x5 x6 x7 M else (if inb (((100 : Int32) * x8) + s0) 10000 = true then (if (M.1 85 (ix (((100 : Int32) * x8) + s0))) = (-2 : Int32) then (if inb (((100 : Int32) * x8) + s0) 10000 = true then nx (sI M 85 (ix (((100 : Int32) * x8) + s0)) x2) (fun M161 => (if inb x3 10000 = true then nx (sI M161 86 (ix x3) (((100 : Int32) * x8) + s0)) (fun M175 => nx (x3 + (1 : Int32)) (fun v176 => fX11_floods_179 k52 k185 x2 v176 x4 x5 x6 x7 M175)) else none)) else none) else fX11_floods_179 k52 k185 x2 x3 x4 x5 x6 x7 M) else none)))
def fX11_floods_85 (k52 : Int32 → Int32 → Int32 → Int32 → Int32 → Int32 → Mem → Option Mem) (k185 : Int32 → Int32 → Int32 → Mem → Option Mem) (x2 : Int32) (x3 : Int32) (x4 : Int32) (x5 : Int32) (x6 : Int32) (x7 : Int32) (s0 : Int32) (M : Mem) : Option Mem := (if x7 = (2 : Int32) then fX11_floods_115 k52 k185 x2 x3 x4 x5 x6 x7 s0 ((x6 - (1 : Int32))) M else (if x7 = (3 : Int32) then fX11_floods_115 k52 k185 x2 x3 x4 x5 x6 x7 s0 ((x6 + (1 : Int32))) M else fX11_floods_115 k52 k185 x2 x3 x4 x5 x6 x7 s0 x6 M))
def fX11_floods_52 (k185 : Int32 → Int32 → Int32 → Mem → Option Mem) : Nat → Int32 → Int32 → Int32 → Int32 → Int32 → Int32 → Mem → Option Mem
  | 0, _, _, _, _, _, _, _ => none
  | n + 1, x2, x3, x4, x5, x6, x7, M => (if (4 : Int32) ≤ x7 then k185 x2 x3 x4 M else (if x7 = 0 then fX11_floods_85 (fX11_floods_52 k185 n) k185 x2 x3 x4 x5 x6 x7 ((x5 - (1 : Int32))) M else (if x7 = (1 : Int32) then fX11_floods_85 (fX11_floods_52 k185 n) k185 x2 x3 x4 x5 x6 x7 ((x5 + (1 : Int32))) M else fX11_floods_85 (fX11_floods_52 k185 n) k185 x2 x3 x4 x5 x6 x7 x5 M)))
def fX11_floods_185 (k19 : Int32 → Int32 → Int32 → Mem → Option Mem) (k191 : Mem → Option Mem) (x2 : Int32) (x3 : Int32) (x4 : Int32) (M : Mem) : Option Mem := nx (x4 + (1 : Int32)) (fun v185 => k19 x2 x3 v185 M)
def fX11_floods_19 (k191 : Mem → Option Mem) : Nat → Int32 → Int32 → Int32 → Mem → Option Mem
  | 0, _, _, _, _ => none
  | n + 1, x2, x3, x4, M => (if x3 ≤ x4 then k191 M else (if inb x4 10000 = true then nx ((M.1 86 (ix x4)) / (100 : Int32)) (fun v35 => (if inb x4 10000 = true then nx (irm (M.1 86 (ix x4)) (100 : Int32)) (fun v47 => fX11_floods_52 (fX11_floods_185 (fX11_floods_19 k191 n) k191) FU x2 x3 x4 v35 v47 (0 : Int32) M) else none)) else none))
def fX11_floods_191 (M : Mem) : Option Mem := some M
def fX11_floods (x1 : Int32) (x2 : Int32) (M : Mem) : Option Mem := nx (sI M 86 (ix (0 : Int32)) x1) (fun M8 => (if inb x1 10000 = true then nx (sI M8 85 (ix x1) x2) (fun M15 => fX11_floods_19 fX11_floods_191 FU x2 (1 : Int32) (0 : Int32) M15) else none))
set_option maxHeartbeats 4000000 in
set_option maxRecDepth 100000 in
theorem wX11_floods_179 {M1 : Mem} {k52 : Int32 → Int32 → Int32 → Int32 → Int32 → Int32 → Mem → Option Mem} {k185 : Int32 → Int32 → Int32 → Mem → Option Mem} (X : CX E p s m args c meth cX11_floods 10 none RX11) (hk52 : ∀ {x2 : Int32} {x3 : Int32} {x4 : Int32} {x5 : Int32} {x6 : Int32} {x7 : Int32} {M : Mem} {H : Heap} {locs : List Loc} {ls : Array Slot}, k52 x2 x3 x4 x5 x6 x7 M = some M1 → Rl E (sh_ b) (nn b) s.heap M H locs → lv_has ls 10 [(0, .ref (eB E + 47)), (2, .int x2), (3, .int x3), (4, .int x4), (5, .int x5), (6, .int x6), (7, .int x7)] → W p l e (rm 3 0 0) s m args below meth c H locs 0 0 (MQ below (qq E none (sh_ b) (nn b) M1) args s 0 0 (fr E)) (F0 m 52 ls [])) (hk185 : ∀ {x2 : Int32} {x3 : Int32} {x4 : Int32} {M : Mem} {H : Heap} {locs : List Loc} {ls : Array Slot}, k185 x2 x3 x4 M = some M1 → Rl E (sh_ b) (nn b) s.heap M H locs → lv_has ls 10 [(0, .ref (eB E + 47)), (2, .int x2), (3, .int x3), (4, .int x4)] → W p l e (rm 3 0 0) s m args below meth c H locs 0 0 (MQ below (qq E none (sh_ b) (nn b) M1) args s 0 0 (fr E)) (F0 m 185 ls [])) : ∀ {x2 : Int32} {x3 : Int32} {x4 : Int32} {x5 : Int32} {x6 : Int32} {x7 : Int32} {M : Mem} {H : Heap} {locs : List Loc} {ls : Array Slot}, fX11_floods_179 k52 k185 x2 x3 x4 x5 x6 x7 M = some M1 → Rl E (sh_ b) (nn b) s.heap M H locs → lv_has ls 10 [(0, .ref (eB E + 47)), (2, .int x2), (3, .int x3), (4, .int x4), (5, .int x5), (6, .int x6), (7, .int x7)] → W p l e (rm 3 0 0) s m args below meth c H locs 0 0 (MQ below (qq E none (sh_ b) (nn b) M1) args s 0 0 (fr E)) (F0 m 179 ls []) := by
  obtain ⟨hx, hb, hr, hml, hown, hts, hK, hN, hO, hlk, hbs⟩ := id X
  intro x2 x3 x4 x5 x6 x7 M H locs ls hf hR hl
  unfold fX11_floods_179 at hf
  obtain ⟨v179, e179⟩ : ∃ y : Int32, y = (x7 + (1 : Int32)) := ⟨_, rfl⟩
  have hf := nx_at e179 hf
  refine lv_iinc (v := v179) (lv' := [(7, .int v179), (0, .ref (eB E + 47)), (2, .int x2), (3, .int x3), (4, .int x4), (5, .int x5), (6, .int x6)]) hx hb dX11_floods_179 hl (k := 6) rfl (by rw [e179]; rfl) (by decide) rfl (fun ls hl => ?_)
  refine lv_goto (tgt := 52) hx hb dX11_floods_182 (by decide) ?_
  exact hk52 hf hR (lv_sub hl [1, 2, 3, 4, 5, 6, 0] rfl)
set_option maxHeartbeats 4000000 in
set_option maxRecDepth 100000 in
theorem wX11_floods_115 {M1 : Mem} {k52 : Int32 → Int32 → Int32 → Int32 → Int32 → Int32 → Mem → Option Mem} {k185 : Int32 → Int32 → Int32 → Mem → Option Mem} (X : CX E p s m args c meth cX11_floods 10 none RX11) (hk52 : ∀ {x2 : Int32} {x3 : Int32} {x4 : Int32} {x5 : Int32} {x6 : Int32} {x7 : Int32} {M : Mem} {H : Heap} {locs : List Loc} {ls : Array Slot}, k52 x2 x3 x4 x5 x6 x7 M = some M1 → Rl E (sh_ b) (nn b) s.heap M H locs → lv_has ls 10 [(0, .ref (eB E + 47)), (2, .int x2), (3, .int x3), (4, .int x4), (5, .int x5), (6, .int x6), (7, .int x7)] → W p l e (rm 3 0 0) s m args below meth c H locs 0 0 (MQ below (qq E none (sh_ b) (nn b) M1) args s 0 0 (fr E)) (F0 m 52 ls [])) (hk185 : ∀ {x2 : Int32} {x3 : Int32} {x4 : Int32} {M : Mem} {H : Heap} {locs : List Loc} {ls : Array Slot}, k185 x2 x3 x4 M = some M1 → Rl E (sh_ b) (nn b) s.heap M H locs → lv_has ls 10 [(0, .ref (eB E + 47)), (2, .int x2), (3, .int x3), (4, .int x4)] → W p l e (rm 3 0 0) s m args below meth c H locs 0 0 (MQ below (qq E none (sh_ b) (nn b) M1) args s 0 0 (fr E)) (F0 m 185 ls [])) : ∀ {x2 : Int32} {x3 : Int32} {x4 : Int32} {x5 : Int32} {x6 : Int32} {x7 : Int32} {x8 : Int32} {s0 : Int32} {M : Mem} {H : Heap} {locs : List Loc} {ls : Array Slot}, fX11_floods_115 k52 k185 x2 x3 x4 x5 x6 x7 x8 s0 M = some M1 → Rl E (sh_ b) (nn b) s.heap M H locs → lv_has ls 10 [(0, .ref (eB E + 47)), (2, .int x2), (3, .int x3), (4, .int x4), (5, .int x5), (6, .int x6), (7, .int x7), (8, .int x8)] → W p l e (rm 3 0 0) s m args below meth c H locs 0 0 (MQ below (qq E none (sh_ b) (nn b) M1) args s 0 0 (fr E)) (F0 m 115 ls [.int s0]) := by
  obtain ⟨hx, hb, hr, hml, hown, hts, hK, hN, hO, hlk, hbs⟩ := id X
  intro x2 x3 x4 x5 x6 x7 x8 s0 M H locs ls hf hR hl
  unfold fX11_floods_115 at hf
  refine lv_istore (lv' := [(9, .int s0), (0, .ref (eB E + 47)), (2, .int x2), (3, .int x3), (4, .int x4), (5, .int x5), (6, .int x6), (7, .int x7), (8, .int x8)]) hx hb dX11_floods_115 hl (by decide) rfl (fun ls hl => ?_)
  refine lv_iload hx hb dX11_floods_117 (lv_at hl 8 rfl) ?_
  refine lv_iload hx hb dX11_floods_119 (lv_at hl 0 rfl) ?_
  obtain ⟨q121, c121, hf⟩ := br_b hf
  refine x_callS (As := [.int x8, .int s0]) (rest := []) (st1 := [.int q121]) X hR (ctX11_isPoint c121) ml_X11_251 st_X11_isPoint in_X11 co_X11_isPoint yo_X11_isPoint (rm_ok (by decide) (by decide)) rfl hl.1 rfl rfl (Nat.le_of_ble_eq_true rfl) dX11_floods_121 ⟨Nat.zero_le _, Nat.zero_le _⟩ (fun H locs hR => ?_)
  refine lv_if_eq (tgt := 179) hx hb dX11_floods_124 (by decide) (fun q124 => ?_) (fun q124 => ?_)
  · have hf := (br_if hf).1 q124
    exact wX11_floods_179 X (fun hf hR hl => hk52 hf hR hl) (fun hf hR hl => hk185 hf hR hl) hf hR (lv_sub hl [1, 2, 3, 4, 5, 6, 7] rfl)
  · have hf := (br_if hf).2 q124
    refine lv_aload_n hx hb dX11_floods_127 rfl (lv_at hl 1 rfl) ?_
    refine x_get hx hb hown hts hK hR kX11 (z_47 b) (j := 35) (by decide) fl_X11_88 (v := .ref (eB E + 85)) rfl dX11_floods_128 ?_
    refine lv_bipush (v := 100) hx hb dX11_floods_131 (by decide) ?_
    refine lv_iload hx hb dX11_floods_133 (lv_at hl 8 rfl) ?_
    refine lv_imul hx hb dX11_floods_135 ?_
    refine lv_iload hx hb dX11_floods_136 (lv_at hl 0 rfl) ?_
    refine lv_iadd hx hb dX11_floods_138 ?_
    obtain ⟨g139, hf⟩ := br_g hf
    refine x_iald hx hb hK hR (z_85 b) g139 dX11_floods_139 ?_
    refine lv_bipush (v := -2) hx hb dX11_floods_140 (by decide) ?_
    refine lv_icmp_eq (tgt := 148) hx hb dX11_floods_142 (by decide) (fun q142 => ?_) (fun q142 => ?_)
    · have hf := (br_if hf).1 q142
      refine lv_aload_n hx hb dX11_floods_148 rfl (lv_at hl 1 rfl) ?_
      refine x_get hx hb hown hts hK hR kX11 (z_47 b) (j := 35) (by decide) fl_X11_88 (v := .ref (eB E + 85)) rfl dX11_floods_149 ?_
      refine lv_bipush (v := 100) hx hb dX11_floods_152 (by decide) ?_
      refine lv_iload hx hb dX11_floods_154 (lv_at hl 8 rfl) ?_
      refine lv_imul hx hb dX11_floods_156 ?_
      refine lv_iload hx hb dX11_floods_157 (lv_at hl 0 rfl) ?_
      refine lv_iadd hx hb dX11_floods_159 ?_
      refine lv_iload_n hx hb dX11_floods_160 rfl (lv_at hl 2 rfl) ?_
      obtain ⟨g161, hf⟩ := br_g hf
      refine x_iast hx hb hK hR (z_85 b) g161 dX11_floods_161 (fun H locs hR => ?_)
      obtain ⟨M161, e161⟩ : ∃ y : Mem, y = (sI M 85 (ix (((100 : Int32) * x8) + s0)) x2) := ⟨_, rfl⟩
      have hf := nx_at e161 hf
      have hR : Rl E (sh_ b) (nn b) s.heap M161 H locs := by rw [e161]; exact hR
      refine lv_aload_n hx hb dX11_floods_162 rfl (lv_at hl 1 rfl) ?_
      refine x_get hx hb hown hts hK hR kX11 (z_47 b) (j := 36) (by decide) fl_X11_91 (v := .ref (eB E + 86)) rfl dX11_floods_163 ?_
      refine lv_iload_n hx hb dX11_floods_166 rfl (lv_at hl 3 rfl) ?_
      refine lv_bipush (v := 100) hx hb dX11_floods_167 (by decide) ?_
      refine lv_iload hx hb dX11_floods_169 (lv_at hl 8 rfl) ?_
      refine lv_imul hx hb dX11_floods_171 ?_
      refine lv_iload hx hb dX11_floods_172 (lv_at hl 0 rfl) ?_
      refine lv_iadd hx hb dX11_floods_174 ?_
      obtain ⟨g175, hf⟩ := br_g hf
      refine x_iast hx hb hK hR (z_86 b) g175 dX11_floods_175 (fun H locs hR => ?_)
      obtain ⟨M175, e175⟩ : ∃ y : Mem, y = (sI M161 86 (ix x3) (((100 : Int32) * x8) + s0)) := ⟨_, rfl⟩
      have hf := nx_at e175 hf
      have hR : Rl E (sh_ b) (nn b) s.heap M175 H locs := by rw [e175]; exact hR
      obtain ⟨v176, e176⟩ : ∃ y : Int32, y = (x3 + (1 : Int32)) := ⟨_, rfl⟩
      have hf := nx_at e176 hf
      refine lv_iinc (v := v176) (lv' := [(3, .int v176), (9, .int s0), (0, .ref (eB E + 47)), (2, .int x2), (4, .int x4), (5, .int x5), (6, .int x6), (7, .int x7), (8, .int x8)]) hx hb dX11_floods_176 hl (k := 3) rfl (by rw [e176]; rfl) (by decide) rfl (fun ls hl => ?_)
      exact wX11_floods_179 X (fun hf hR hl => hk52 hf hR hl) (fun hf hR hl => hk185 hf hR hl) hf hR (lv_sub hl [2, 3, 0, 4, 5, 6, 7] rfl)
    · have hf := (br_if hf).2 q142
      refine lv_goto (tgt := 179) hx hb dX11_floods_145 (by decide) ?_
      exact wX11_floods_179 X (fun hf hR hl => hk52 hf hR hl) (fun hf hR hl => hk185 hf hR hl) hf hR (lv_sub hl [1, 2, 3, 4, 5, 6, 7] rfl)
set_option maxHeartbeats 4000000 in
set_option maxRecDepth 100000 in
theorem wX11_floods_85 {M1 : Mem} {k52 : Int32 → Int32 → Int32 → Int32 → Int32 → Int32 → Mem → Option Mem} {k185 : Int32 → Int32 → Int32 → Mem → Option Mem} (X : CX E p s m args c meth cX11_floods 10 none RX11) (hk52 : ∀ {x2 : Int32} {x3 : Int32} {x4 : Int32} {x5 : Int32} {x6 : Int32} {x7 : Int32} {M : Mem} {H : Heap} {locs : List Loc} {ls : Array Slot}, k52 x2 x3 x4 x5 x6 x7 M = some M1 → Rl E (sh_ b) (nn b) s.heap M H locs → lv_has ls 10 [(0, .ref (eB E + 47)), (2, .int x2), (3, .int x3), (4, .int x4), (5, .int x5), (6, .int x6), (7, .int x7)] → W p l e (rm 3 0 0) s m args below meth c H locs 0 0 (MQ below (qq E none (sh_ b) (nn b) M1) args s 0 0 (fr E)) (F0 m 52 ls [])) (hk185 : ∀ {x2 : Int32} {x3 : Int32} {x4 : Int32} {M : Mem} {H : Heap} {locs : List Loc} {ls : Array Slot}, k185 x2 x3 x4 M = some M1 → Rl E (sh_ b) (nn b) s.heap M H locs → lv_has ls 10 [(0, .ref (eB E + 47)), (2, .int x2), (3, .int x3), (4, .int x4)] → W p l e (rm 3 0 0) s m args below meth c H locs 0 0 (MQ below (qq E none (sh_ b) (nn b) M1) args s 0 0 (fr E)) (F0 m 185 ls [])) : ∀ {x2 : Int32} {x3 : Int32} {x4 : Int32} {x5 : Int32} {x6 : Int32} {x7 : Int32} {s0 : Int32} {M : Mem} {H : Heap} {locs : List Loc} {ls : Array Slot}, fX11_floods_85 k52 k185 x2 x3 x4 x5 x6 x7 s0 M = some M1 → Rl E (sh_ b) (nn b) s.heap M H locs → lv_has ls 10 [(0, .ref (eB E + 47)), (2, .int x2), (3, .int x3), (4, .int x4), (5, .int x5), (6, .int x6), (7, .int x7)] → W p l e (rm 3 0 0) s m args below meth c H locs 0 0 (MQ below (qq E none (sh_ b) (nn b) M1) args s 0 0 (fr E)) (F0 m 85 ls [.int s0]) := by
  obtain ⟨hx, hb, hr, hml, hown, hts, hK, hN, hO, hlk, hbs⟩ := id X
  intro x2 x3 x4 x5 x6 x7 s0 M H locs ls hf hR hl
  unfold fX11_floods_85 at hf
  refine lv_istore (lv' := [(8, .int s0), (0, .ref (eB E + 47)), (2, .int x2), (3, .int x3), (4, .int x4), (5, .int x5), (6, .int x6), (7, .int x7)]) hx hb dX11_floods_85 hl (by decide) rfl (fun ls hl => ?_)
  refine lv_iload hx hb dX11_floods_87 (lv_at hl 7 rfl) ?_
  refine lv_iconst (v := 2) hx hb dX11_floods_89 (by decide) ?_
  refine lv_icmp_ne (tgt := 100) hx hb dX11_floods_90 (by decide) (fun q90 => ?_) (fun q90 => ?_)
  · have hf := (br_if hf).2 q90
    refine lv_iload hx hb dX11_floods_100 (lv_at hl 7 rfl) ?_
    refine lv_iconst (v := 3) hx hb dX11_floods_102 (by decide) ?_
    refine lv_icmp_ne (tgt := 113) hx hb dX11_floods_103 (by decide) (fun q103 => ?_) (fun q103 => ?_)
    · have hf := (br_if hf).2 q103
      refine lv_iload hx hb dX11_floods_113 (lv_at hl 6 rfl) ?_
      exact wX11_floods_115 X (fun hf hR hl => hk52 hf hR hl) (fun hf hR hl => hk185 hf hR hl) hf hR (lv_sub hl [1, 2, 3, 4, 5, 6, 7, 0] rfl)
    · have hf := (br_if hf).1 q103
      refine lv_iload hx hb dX11_floods_106 (lv_at hl 6 rfl) ?_
      refine lv_iconst (v := 1) hx hb dX11_floods_108 (by decide) ?_
      refine lv_iadd hx hb dX11_floods_109 ?_
      refine lv_goto (tgt := 115) hx hb dX11_floods_110 (by decide) ?_
      exact wX11_floods_115 X (fun hf hR hl => hk52 hf hR hl) (fun hf hR hl => hk185 hf hR hl) hf hR (lv_sub hl [1, 2, 3, 4, 5, 6, 7, 0] rfl)
  · have hf := (br_if hf).1 q90
    refine lv_iload hx hb dX11_floods_93 (lv_at hl 6 rfl) ?_
    refine lv_iconst (v := 1) hx hb dX11_floods_95 (by decide) ?_
    refine lv_isub hx hb dX11_floods_96 ?_
    refine lv_goto (tgt := 115) hx hb dX11_floods_97 (by decide) ?_
    exact wX11_floods_115 X (fun hf hR hl => hk52 hf hR hl) (fun hf hR hl => hk185 hf hR hl) hf hR (lv_sub hl [1, 2, 3, 4, 5, 6, 7, 0] rfl)
set_option maxHeartbeats 4000000 in
set_option maxRecDepth 100000 in
theorem wX11_floods_52 {M1 : Mem} {k185 : Int32 → Int32 → Int32 → Mem → Option Mem} (X : CX E p s m args c meth cX11_floods 10 none RX11) (hk185 : ∀ {x2 : Int32} {x3 : Int32} {x4 : Int32} {M : Mem} {H : Heap} {locs : List Loc} {ls : Array Slot}, k185 x2 x3 x4 M = some M1 → Rl E (sh_ b) (nn b) s.heap M H locs → lv_has ls 10 [(0, .ref (eB E + 47)), (2, .int x2), (3, .int x3), (4, .int x4)] → W p l e (rm 3 0 0) s m args below meth c H locs 0 0 (MQ below (qq E none (sh_ b) (nn b) M1) args s 0 0 (fr E)) (F0 m 185 ls [])) : ∀ (n : Nat) {x2 : Int32} {x3 : Int32} {x4 : Int32} {x5 : Int32} {x6 : Int32} {x7 : Int32} {M : Mem} {H : Heap} {locs : List Loc} {ls : Array Slot}, fX11_floods_52 k185 n x2 x3 x4 x5 x6 x7 M = some M1 → Rl E (sh_ b) (nn b) s.heap M H locs → lv_has ls 10 [(0, .ref (eB E + 47)), (2, .int x2), (3, .int x3), (4, .int x4), (5, .int x5), (6, .int x6), (7, .int x7)] → W p l e (rm 3 0 0) s m args below meth c H locs 0 0 (MQ below (qq E none (sh_ b) (nn b) M1) args s 0 0 (fr E)) (F0 m 52 ls []) := by
  obtain ⟨hx, hb, hr, hml, hown, hts, hK, hN, hO, hlk, hbs⟩ := id X
  intro n
  induction n with
  | zero =>
    intro x2 x3 x4 x5 x6 x7 M H locs ls hf hR hl
    exact absurd (show none = some _ from hf) (fun h => by cases h)
  | succ n ih =>
    intro x2 x3 x4 x5 x6 x7 M H locs ls hf hR hl
    rw [fX11_floods_52] at hf
    refine lv_iload hx hb dX11_floods_52 (lv_at hl 6 rfl) ?_
    refine lv_iconst (v := 4) hx hb dX11_floods_54 (by decide) ?_
    refine lv_icmp_ge (tgt := 185) hx hb dX11_floods_55 (by decide) (fun q55 => ?_) (fun q55 => ?_)
    · have hf := (br_if hf).1 q55
      exact hk185 hf hR (lv_sub hl [0, 1, 2, 3] rfl)
    · have hf := (br_if hf).2 q55
      refine lv_iload hx hb dX11_floods_58 (lv_at hl 6 rfl) ?_
      refine lv_if_ne (tgt := 70) hx hb dX11_floods_60 (by decide) (fun q60 => ?_) (fun q60 => ?_)
      · have hf := (br_if hf).2 q60
        refine lv_iload hx hb dX11_floods_70 (lv_at hl 6 rfl) ?_
        refine lv_iconst (v := 1) hx hb dX11_floods_72 (by decide) ?_
        refine lv_icmp_ne (tgt := 83) hx hb dX11_floods_73 (by decide) (fun q73 => ?_) (fun q73 => ?_)
        · have hf := (br_if hf).2 q73
          refine lv_iload hx hb dX11_floods_83 (lv_at hl 4 rfl) ?_
          exact wX11_floods_85 X (fun hf hR hl => ih hf hR hl) (fun hf hR hl => hk185 hf hR hl) hf hR hl
        · have hf := (br_if hf).1 q73
          refine lv_iload hx hb dX11_floods_76 (lv_at hl 4 rfl) ?_
          refine lv_iconst (v := 1) hx hb dX11_floods_78 (by decide) ?_
          refine lv_iadd hx hb dX11_floods_79 ?_
          refine lv_goto (tgt := 85) hx hb dX11_floods_80 (by decide) ?_
          exact wX11_floods_85 X (fun hf hR hl => ih hf hR hl) (fun hf hR hl => hk185 hf hR hl) hf hR hl
      · have hf := (br_if hf).1 q60
        refine lv_iload hx hb dX11_floods_63 (lv_at hl 4 rfl) ?_
        refine lv_iconst (v := 1) hx hb dX11_floods_65 (by decide) ?_
        refine lv_isub hx hb dX11_floods_66 ?_
        refine lv_goto (tgt := 85) hx hb dX11_floods_67 (by decide) ?_
        exact wX11_floods_85 X (fun hf hR hl => ih hf hR hl) (fun hf hR hl => hk185 hf hR hl) hf hR hl
set_option maxHeartbeats 4000000 in
set_option maxRecDepth 100000 in
theorem wX11_floods_185 {M1 : Mem} {k19 : Int32 → Int32 → Int32 → Mem → Option Mem} {k191 : Mem → Option Mem} (X : CX E p s m args c meth cX11_floods 10 none RX11) (hk19 : ∀ {x2 : Int32} {x3 : Int32} {x4 : Int32} {M : Mem} {H : Heap} {locs : List Loc} {ls : Array Slot}, k19 x2 x3 x4 M = some M1 → Rl E (sh_ b) (nn b) s.heap M H locs → lv_has ls 10 [(0, .ref (eB E + 47)), (2, .int x2), (3, .int x3), (4, .int x4)] → W p l e (rm 3 0 0) s m args below meth c H locs 0 0 (MQ below (qq E none (sh_ b) (nn b) M1) args s 0 0 (fr E)) (F0 m 19 ls [])) (hk191 : ∀ {M : Mem} {H : Heap} {locs : List Loc} {ls : Array Slot}, k191 M = some M1 → Rl E (sh_ b) (nn b) s.heap M H locs → lv_has ls 10 [] → W p l e (rm 3 0 0) s m args below meth c H locs 0 0 (MQ below (qq E none (sh_ b) (nn b) M1) args s 0 0 (fr E)) (F0 m 191 ls [])) : ∀ {x2 : Int32} {x3 : Int32} {x4 : Int32} {M : Mem} {H : Heap} {locs : List Loc} {ls : Array Slot}, fX11_floods_185 k19 k191 x2 x3 x4 M = some M1 → Rl E (sh_ b) (nn b) s.heap M H locs → lv_has ls 10 [(0, .ref (eB E + 47)), (2, .int x2), (3, .int x3), (4, .int x4)] → W p l e (rm 3 0 0) s m args below meth c H locs 0 0 (MQ below (qq E none (sh_ b) (nn b) M1) args s 0 0 (fr E)) (F0 m 185 ls []) := by
  obtain ⟨hx, hb, hr, hml, hown, hts, hK, hN, hO, hlk, hbs⟩ := id X
  intro x2 x3 x4 M H locs ls hf hR hl
  unfold fX11_floods_185 at hf
  obtain ⟨v185, e185⟩ : ∃ y : Int32, y = (x4 + (1 : Int32)) := ⟨_, rfl⟩
  have hf := nx_at e185 hf
  refine lv_iinc (v := v185) (lv' := [(4, .int v185), (0, .ref (eB E + 47)), (2, .int x2), (3, .int x3)]) hx hb dX11_floods_185 hl (k := 3) rfl (by rw [e185]; rfl) (by decide) rfl (fun ls hl => ?_)
  refine lv_goto (tgt := 19) hx hb dX11_floods_188 (by decide) ?_
  exact hk19 hf hR (lv_sub hl [1, 2, 3, 0] rfl)
set_option maxHeartbeats 4000000 in
set_option maxRecDepth 100000 in
theorem wX11_floods_19 {M1 : Mem} {k191 : Mem → Option Mem} (X : CX E p s m args c meth cX11_floods 10 none RX11) (hk191 : ∀ {M : Mem} {H : Heap} {locs : List Loc} {ls : Array Slot}, k191 M = some M1 → Rl E (sh_ b) (nn b) s.heap M H locs → lv_has ls 10 [] → W p l e (rm 3 0 0) s m args below meth c H locs 0 0 (MQ below (qq E none (sh_ b) (nn b) M1) args s 0 0 (fr E)) (F0 m 191 ls [])) : ∀ (n : Nat) {x2 : Int32} {x3 : Int32} {x4 : Int32} {M : Mem} {H : Heap} {locs : List Loc} {ls : Array Slot}, fX11_floods_19 k191 n x2 x3 x4 M = some M1 → Rl E (sh_ b) (nn b) s.heap M H locs → lv_has ls 10 [(0, .ref (eB E + 47)), (2, .int x2), (3, .int x3), (4, .int x4)] → W p l e (rm 3 0 0) s m args below meth c H locs 0 0 (MQ below (qq E none (sh_ b) (nn b) M1) args s 0 0 (fr E)) (F0 m 19 ls []) := by
  obtain ⟨hx, hb, hr, hml, hown, hts, hK, hN, hO, hlk, hbs⟩ := id X
  intro n
  induction n with
  | zero =>
    intro x2 x3 x4 M H locs ls hf hR hl
    exact absurd (show none = some _ from hf) (fun h => by cases h)
  | succ n ih =>
    intro x2 x3 x4 M H locs ls hf hR hl
    rw [fX11_floods_19] at hf
    refine lv_iload hx hb dX11_floods_19 (lv_at hl 3 rfl) ?_
    refine lv_iload_n hx hb dX11_floods_21 rfl (lv_at hl 2 rfl) ?_
    refine lv_icmp_ge (tgt := 191) hx hb dX11_floods_22 (by decide) (fun q22 => ?_) (fun q22 => ?_)
    · have hf := (br_if hf).1 q22
      exact hk191 hf hR (lv_sub hl [] rfl)
    · have hf := (br_if hf).2 q22
      refine lv_aload_n hx hb dX11_floods_25 rfl (lv_at hl 0 rfl) ?_
      refine x_get hx hb hown hts hK hR kX11 (z_47 b) (j := 36) (by decide) fl_X11_91 (v := .ref (eB E + 86)) rfl dX11_floods_26 ?_
      refine lv_iload hx hb dX11_floods_29 (lv_at hl 3 rfl) ?_
      obtain ⟨g31, hf⟩ := br_g hf
      refine x_iald hx hb hK hR (z_86 b) g31 dX11_floods_31 ?_
      refine lv_bipush (v := 100) hx hb dX11_floods_32 (by decide) ?_
      refine lv_idiv hx hb dX11_floods_34 (by decide) ?_
      refine lv_topi (fun v35 e35 => ?_)
      have hf := nx_at e35 hf
      refine lv_istore (lv' := [(5, .int v35), (0, .ref (eB E + 47)), (2, .int x2), (3, .int x3), (4, .int x4)]) hx hb dX11_floods_35 hl (by decide) rfl (fun ls hl => ?_)
      refine lv_aload_n hx hb dX11_floods_37 rfl (lv_at hl 1 rfl) ?_
      refine x_get hx hb hown hts hK hR kX11 (z_47 b) (j := 36) (by decide) fl_X11_91 (v := .ref (eB E + 86)) rfl dX11_floods_38 ?_
      refine lv_iload hx hb dX11_floods_41 (lv_at hl 4 rfl) ?_
      obtain ⟨g43, hf⟩ := br_g hf
      refine x_iald hx hb hK hR (z_86 b) g43 dX11_floods_43 ?_
      refine lv_bipush (v := 100) hx hb dX11_floods_44 (by decide) ?_
      refine lv_irem hx hb dX11_floods_46 (by decide) ?_
      refine W.eq (g2 := F0 m 47 ls [.int (irm (M.1 86 (ix x4)) (100 : Int32))]) rfl ?_
      refine lv_topi (fun v47 e47 => ?_)
      have hf := nx_at e47 hf
      refine lv_istore (lv' := [(6, .int v47), (5, .int v35), (0, .ref (eB E + 47)), (2, .int x2), (3, .int x3), (4, .int x4)]) hx hb dX11_floods_47 hl (by decide) rfl (fun ls hl => ?_)
      refine lv_iconst (v := 0) hx hb dX11_floods_49 (by decide) ?_
      refine lv_istore (lv' := [(7, .int (0 : Int32)), (6, .int v47), (5, .int v35), (0, .ref (eB E + 47)), (2, .int x2), (3, .int x3), (4, .int x4)]) hx hb dX11_floods_50 hl (by decide) rfl (fun ls hl => ?_)
      exact wX11_floods_52 X (fun hf hR hl => wX11_floods_185 X (fun hf hR hl => ih hf hR hl) (fun hf hR hl => hk191 hf hR hl) hf hR hl) FU hf hR (lv_sub hl [3, 4, 5, 6, 2, 1, 0] rfl)
set_option maxHeartbeats 4000000 in
set_option maxRecDepth 100000 in
theorem wX11_floods_191 {M1 : Mem} (X : CX E p s m args c meth cX11_floods 10 none RX11) : ∀ {M : Mem} {H : Heap} {locs : List Loc} {ls : Array Slot}, fX11_floods_191 M = some M1 → Rl E (sh_ b) (nn b) s.heap M H locs → lv_has ls 10 [] → W p l e (rm 3 0 0) s m args below meth c H locs 0 0 (MQ below (qq E none (sh_ b) (nn b) M1) args s 0 0 (fr E)) (F0 m 191 ls []) := by
  obtain ⟨hx, hb, hr, hml, hown, hts, hK, hN, hO, hlk, hbs⟩ := id X
  intro M H locs ls hf hR hl
  unfold fX11_floods_191 at hf
  cases hf
  exact x_vret hx hb hr hlk hR dX11_floods_191
set_option maxHeartbeats 4000000 in
set_option maxRecDepth 100000 in
theorem wX11_floods_0 {M1 : Mem} (X : CX E p s m args c meth cX11_floods 10 none RX11) : ∀ {x1 : Int32} {x2 : Int32} {M : Mem} {H : Heap} {locs : List Loc} {ls : Array Slot}, fX11_floods x1 x2 M = some M1 → Rl E (sh_ b) (nn b) s.heap M H locs → lv_has ls 10 [(0, .ref (eB E + 47)), (1, .int x1), (2, .int x2)] → W p l e (rm 3 0 0) s m args below meth c H locs 0 0 (MQ below (qq E none (sh_ b) (nn b) M1) args s 0 0 (fr E)) (F0 m 0 ls []) := by
  obtain ⟨hx, hb, hr, hml, hown, hts, hK, hN, hO, hlk, hbs⟩ := id X
  intro x1 x2 M H locs ls hf hR hl
  unfold fX11_floods at hf
  refine lv_iconst (v := 1) hx hb dX11_floods_0 (by decide) ?_
  refine lv_istore_n (lv' := [(3, .int (1 : Int32)), (0, .ref (eB E + 47)), (1, .int x1), (2, .int x2)]) hx hb dX11_floods_1 rfl hl (by decide) rfl (fun ls hl => ?_)
  refine lv_aload_n hx hb dX11_floods_2 rfl (lv_at hl 1 rfl) ?_
  refine x_get hx hb hown hts hK hR kX11 (z_47 b) (j := 36) (by decide) fl_X11_91 (v := .ref (eB E + 86)) rfl dX11_floods_3 ?_
  refine lv_iconst (v := 0) hx hb dX11_floods_6 (by decide) ?_
  refine lv_iload_n hx hb dX11_floods_7 rfl (lv_at hl 2 rfl) ?_
  refine x_iast hx hb hK hR (z_86 b) (by decide) dX11_floods_8 (fun H locs hR => ?_)
  obtain ⟨M8, e8⟩ : ∃ y : Mem, y = (sI M 86 (ix (0 : Int32)) x1) := ⟨_, rfl⟩
  have hf := nx_at e8 hf
  have hR : Rl E (sh_ b) (nn b) s.heap M8 H locs := by rw [e8]; exact hR
  refine lv_aload_n hx hb dX11_floods_9 rfl (lv_at hl 1 rfl) ?_
  refine x_get hx hb hown hts hK hR kX11 (z_47 b) (j := 35) (by decide) fl_X11_88 (v := .ref (eB E + 85)) rfl dX11_floods_10 ?_
  refine lv_iload_n hx hb dX11_floods_13 rfl (lv_at hl 2 rfl) ?_
  refine lv_iload_n hx hb dX11_floods_14 rfl (lv_at hl 3 rfl) ?_
  obtain ⟨g15, hf⟩ := br_g hf
  refine x_iast hx hb hK hR (z_85 b) g15 dX11_floods_15 (fun H locs hR => ?_)
  obtain ⟨M15, e15⟩ : ∃ y : Mem, y = (sI M8 85 (ix x1) x2) := ⟨_, rfl⟩
  have hf := nx_at e15 hf
  have hR : Rl E (sh_ b) (nn b) s.heap M15 H locs := by rw [e15]; exact hR
  refine lv_iconst (v := 0) hx hb dX11_floods_16 (by decide) ?_
  refine lv_istore (lv' := [(4, .int (0 : Int32)), (3, .int (1 : Int32)), (0, .ref (eB E + 47)), (1, .int x1), (2, .int x2)]) hx hb dX11_floods_17 hl (by decide) rfl (fun ls hl => ?_)
  exact wX11_floods_19 X (fun hf hR hl => wX11_floods_191 X hf hR hl) FU hf hR (lv_sub hl [2, 4, 1, 0] rfl)
theorem ctX11_floods {l : Launch} {E : Ge} {b : Bool} {M : Mem} {x1 : Int32} {x2 : Int32} {M1 : Mem} (h : fX11_floods x1 x2 M = some M1) : CT l E yX11_floods cX11_floods 10 none 3 0 0 [.ref (eB E + 47), .int x1, .int x2] none (sh_ b) (nn b) M (sh_ b) (nn b) M1 := by
  refine met_of (by decide) (Nat.le_of_ble_eq_true rfl) ?_
  intro p e s m args below meth c X _ hR ls hl
  exact wX11_floods_0 X h hR hl
def fX11_finds_67 (k12 : Int32 → Int32 → Int32 → Mem → Option Mem) (k77 : Mem → Option Mem) (x1 : Int32) (x2 : Int32) (x3 : Int32) (s1 : Int32) (s2 : Int32) (M : Mem) : Option Mem := nx (sI M 47 38 (s1 + s2)) (fun M68 => nx (x3 + (1 : Int32)) (fun v71 => k12 x1 x2 v71 M68))
def fX11_finds_51 (k12 : Int32 → Int32 → Int32 → Mem → Option Mem) (k77 : Mem → Option Mem) (x1 : Int32) (x2 : Int32) (x3 : Int32) (x4 : Int32) (s1 : Int32) (s2 : Int32) (M : Mem) : Option Mem := (if inb s1 10000 = true then nx (sI M 85 (ix s1) s2) (fun M51 => (if x4 = 0 then fX11_finds_67 k12 k77 x1 x2 x3 ((M51.1 47 38)) (0 : Int32) M51 else fX11_finds_67 k12 k77 x1 x2 x3 ((M51.1 47 38)) (1 : Int32) M51)) else none)
def fX11_finds_12 (k77 : Mem → Option Mem) : Nat → Int32 → Int32 → Int32 → Mem → Option Mem
  | 0, _, _, _, _ => none
  | n + 1, x1, x2, x3, M => (if (10000 : Int32) ≤ x3 then k77 M else (fX11_beatsAt M (x3 / (100 : Int32)) (irm x3 (100 : Int32)) x1 x2).bind (fun q30 => (if q30 = 0 then fX11_finds_51 (fX11_finds_12 k77 n) k77 x1 x2 x3 q30 x3 (-1 : Int32) M else fX11_finds_51 (fX11_finds_12 k77 n) k77 x1 x2 x3 q30 x3 (-2 : Int32) M)))
def fX11_finds_119 (k79 : Int32 → Mem → Option Mem) (k125 : Mem → Option Mem) (x3 : Int32) (M : Mem) : Option Mem := nx (x3 + (1 : Int32)) (fun v119 => k79 v119 M)
def fX11_finds_79 (k125 : Mem → Option Mem) : Nat → Int32 → Mem → Option Mem
  | 0, _, _ => none
  | n + 1, x3, M => (if (10000 : Int32) ≤ x3 then k125 M else (if inb x3 10000 = true then (if (M.1 85 (ix x3)) = (-2 : Int32) then (fX11_floods x3 (M.1 47 37) M).bind (fun q106 => nx (sI q106 47 37 ((q106.1 47 37) + (1 : Int32))) (fun M116 => fX11_finds_119 (fX11_finds_79 k125 n) k125 x3 M116)) else fX11_finds_119 (fX11_finds_79 k125 n) k125 x3 M) else none))
def fX11_finds_125 (M : Mem) : Option Mem := some M
def fX11_finds_77 (M : Mem) : Option Mem := fX11_finds_79 fX11_finds_125 FU (0 : Int32) M
def fX11_finds (x1 : Int32) (x2 : Int32) (M : Mem) : Option Mem := nx (sI M 47 38 (0 : Int32)) (fun M2 => nx (sI M2 47 37 (0 : Int32)) (fun M7 => fX11_finds_12 fX11_finds_77 FU x1 x2 (0 : Int32) M7))
set_option maxHeartbeats 4000000 in
set_option maxRecDepth 100000 in
theorem wX11_finds_67 {M1 : Mem} {k12 : Int32 → Int32 → Int32 → Mem → Option Mem} {k77 : Mem → Option Mem} (X : CX E p s m args c meth cX11_finds 5 none RX11) (hk12 : ∀ {x1 : Int32} {x2 : Int32} {x3 : Int32} {M : Mem} {H : Heap} {locs : List Loc} {ls : Array Slot}, k12 x1 x2 x3 M = some M1 → Rl E (sh_ b) (nn b) s.heap M H locs → lv_has ls 5 [(0, .ref (eB E + 47)), (1, .int x1), (2, .int x2), (3, .int x3)] → W p l e (rm 6 0 0) s m args below meth c H locs 0 0 (MQ below (qq E none (sh_ b) (nn b) M1) args s 0 0 (fr E)) (F0 m 12 ls [])) (hk77 : ∀ {M : Mem} {H : Heap} {locs : List Loc} {ls : Array Slot}, k77 M = some M1 → Rl E (sh_ b) (nn b) s.heap M H locs → lv_has ls 5 [(0, .ref (eB E + 47))] → W p l e (rm 6 0 0) s m args below meth c H locs 0 0 (MQ below (qq E none (sh_ b) (nn b) M1) args s 0 0 (fr E)) (F0 m 77 ls [])) : ∀ {x1 : Int32} {x2 : Int32} {x3 : Int32} {s1 : Int32} {s2 : Int32} {M : Mem} {H : Heap} {locs : List Loc} {ls : Array Slot}, fX11_finds_67 k12 k77 x1 x2 x3 s1 s2 M = some M1 → Rl E (sh_ b) (nn b) s.heap M H locs → lv_has ls 5 [(0, .ref (eB E + 47)), (1, .int x1), (2, .int x2), (3, .int x3)] → W p l e (rm 6 0 0) s m args below meth c H locs 0 0 (MQ below (qq E none (sh_ b) (nn b) M1) args s 0 0 (fr E)) (F0 m 67 ls [.int s2, .int s1, .ref (eB E + 47)]) := by
  obtain ⟨hx, hb, hr, hml, hown, hts, hK, hN, hO, hlk, hbs⟩ := id X
  intro x1 x2 x3 s1 s2 M H locs ls hf hR hl
  unfold fX11_finds_67 at hf
  refine lv_iadd hx hb dX11_finds_67 ?_
  refine x_puti hx hb hown hts hK hR kX11 (z_47 b) (j := 38) (by decide) fl_X11_348 rfl rfl rfl rfl dX11_finds_68 (fun H locs hR => ?_)
  obtain ⟨M68, e68⟩ : ∃ y : Mem, y = (sI M 47 38 (s1 + s2)) := ⟨_, rfl⟩
  have hf := nx_at e68 hf
  have hR : Rl E (sh_ b) (nn b) s.heap M68 H locs := by rw [e68]; exact hR
  obtain ⟨v71, e71⟩ : ∃ y : Int32, y = (x3 + (1 : Int32)) := ⟨_, rfl⟩
  have hf := nx_at e71 hf
  refine lv_iinc (v := v71) (lv' := [(3, .int v71), (0, .ref (eB E + 47)), (1, .int x1), (2, .int x2)]) hx hb dX11_finds_71 hl (k := 3) rfl (by rw [e71]; rfl) (by decide) rfl (fun ls hl => ?_)
  refine lv_goto (tgt := 12) hx hb dX11_finds_74 (by decide) ?_
  exact hk12 hf hR (lv_sub hl [1, 2, 3, 0] rfl)
set_option maxHeartbeats 4000000 in
set_option maxRecDepth 100000 in
theorem wX11_finds_51 {M1 : Mem} {k12 : Int32 → Int32 → Int32 → Mem → Option Mem} {k77 : Mem → Option Mem} (X : CX E p s m args c meth cX11_finds 5 none RX11) (hk12 : ∀ {x1 : Int32} {x2 : Int32} {x3 : Int32} {M : Mem} {H : Heap} {locs : List Loc} {ls : Array Slot}, k12 x1 x2 x3 M = some M1 → Rl E (sh_ b) (nn b) s.heap M H locs → lv_has ls 5 [(0, .ref (eB E + 47)), (1, .int x1), (2, .int x2), (3, .int x3)] → W p l e (rm 6 0 0) s m args below meth c H locs 0 0 (MQ below (qq E none (sh_ b) (nn b) M1) args s 0 0 (fr E)) (F0 m 12 ls [])) (hk77 : ∀ {M : Mem} {H : Heap} {locs : List Loc} {ls : Array Slot}, k77 M = some M1 → Rl E (sh_ b) (nn b) s.heap M H locs → lv_has ls 5 [(0, .ref (eB E + 47))] → W p l e (rm 6 0 0) s m args below meth c H locs 0 0 (MQ below (qq E none (sh_ b) (nn b) M1) args s 0 0 (fr E)) (F0 m 77 ls [])) : ∀ {x1 : Int32} {x2 : Int32} {x3 : Int32} {x4 : Int32} {s1 : Int32} {s2 : Int32} {M : Mem} {H : Heap} {locs : List Loc} {ls : Array Slot}, fX11_finds_51 k12 k77 x1 x2 x3 x4 s1 s2 M = some M1 → Rl E (sh_ b) (nn b) s.heap M H locs → lv_has ls 5 [(0, .ref (eB E + 47)), (1, .int x1), (2, .int x2), (3, .int x3), (4, .int x4)] → W p l e (rm 6 0 0) s m args below meth c H locs 0 0 (MQ below (qq E none (sh_ b) (nn b) M1) args s 0 0 (fr E)) (F0 m 51 ls [.int s2, .int s1, .ref (eB E + 85)]) := by
  obtain ⟨hx, hb, hr, hml, hown, hts, hK, hN, hO, hlk, hbs⟩ := id X
  intro x1 x2 x3 x4 s1 s2 M H locs ls hf hR hl
  unfold fX11_finds_51 at hf
  obtain ⟨g51, hf⟩ := br_g hf
  refine x_iast hx hb hK hR (z_85 b) g51 dX11_finds_51 (fun H locs hR => ?_)
  obtain ⟨M51, e51⟩ : ∃ y : Mem, y = (sI M 85 (ix s1) s2) := ⟨_, rfl⟩
  have hf := nx_at e51 hf
  have hR : Rl E (sh_ b) (nn b) s.heap M51 H locs := by rw [e51]; exact hR
  refine lv_aload_n hx hb dX11_finds_52 rfl (lv_at hl 0 rfl) ?_
  refine lv_dup hx hb dX11_finds_53 rfl ?_
  refine x_get hx hb hown hts hK hR kX11 (z_47 b) (j := 38) (by decide) fl_X11_348 (v := .int (M51.1 47 38)) rfl dX11_finds_54 ?_
  refine lv_iload hx hb dX11_finds_57 (lv_at hl 4 rfl) ?_
  refine lv_if_eq (tgt := 66) hx hb dX11_finds_59 (by decide) (fun q59 => ?_) (fun q59 => ?_)
  · have hf := (br_if hf).1 q59
    refine lv_iconst (v := 0) hx hb dX11_finds_66 (by decide) ?_
    exact wX11_finds_67 X (fun hf hR hl => hk12 hf hR hl) (fun hf hR hl => hk77 hf hR hl) hf hR (lv_sub hl [0, 1, 2, 3] rfl)
  · have hf := (br_if hf).2 q59
    refine lv_iconst (v := 1) hx hb dX11_finds_62 (by decide) ?_
    refine lv_goto (tgt := 67) hx hb dX11_finds_63 (by decide) ?_
    exact wX11_finds_67 X (fun hf hR hl => hk12 hf hR hl) (fun hf hR hl => hk77 hf hR hl) hf hR (lv_sub hl [0, 1, 2, 3] rfl)
set_option maxHeartbeats 4000000 in
set_option maxRecDepth 100000 in
theorem wX11_finds_12 {M1 : Mem} {k77 : Mem → Option Mem} (X : CX E p s m args c meth cX11_finds 5 none RX11) (hk77 : ∀ {M : Mem} {H : Heap} {locs : List Loc} {ls : Array Slot}, k77 M = some M1 → Rl E (sh_ b) (nn b) s.heap M H locs → lv_has ls 5 [(0, .ref (eB E + 47))] → W p l e (rm 6 0 0) s m args below meth c H locs 0 0 (MQ below (qq E none (sh_ b) (nn b) M1) args s 0 0 (fr E)) (F0 m 77 ls [])) : ∀ (n : Nat) {x1 : Int32} {x2 : Int32} {x3 : Int32} {M : Mem} {H : Heap} {locs : List Loc} {ls : Array Slot}, fX11_finds_12 k77 n x1 x2 x3 M = some M1 → Rl E (sh_ b) (nn b) s.heap M H locs → lv_has ls 5 [(0, .ref (eB E + 47)), (1, .int x1), (2, .int x2), (3, .int x3)] → W p l e (rm 6 0 0) s m args below meth c H locs 0 0 (MQ below (qq E none (sh_ b) (nn b) M1) args s 0 0 (fr E)) (F0 m 12 ls []) := by
  obtain ⟨hx, hb, hr, hml, hown, hts, hK, hN, hO, hlk, hbs⟩ := id X
  intro n
  induction n with
  | zero =>
    intro x1 x2 x3 M H locs ls hf hR hl
    exact absurd (show none = some _ from hf) (fun h => by cases h)
  | succ n ih =>
    intro x1 x2 x3 M H locs ls hf hR hl
    rw [fX11_finds_12] at hf
    refine lv_iload_n hx hb dX11_finds_12 rfl (lv_at hl 3 rfl) ?_
    refine lv_sipush (v := 10000) hx hb dX11_finds_13 (by decide) ?_
    refine lv_icmp_ge (tgt := 77) hx hb dX11_finds_16 (by decide) (fun q16 => ?_) (fun q16 => ?_)
    · have hf := (br_if hf).1 q16
      exact hk77 hf hR (lv_sub hl [0] rfl)
    · have hf := (br_if hf).2 q16
      refine lv_aload_n hx hb dX11_finds_19 rfl (lv_at hl 0 rfl) ?_
      refine lv_iload_n hx hb dX11_finds_20 rfl (lv_at hl 3 rfl) ?_
      refine lv_bipush (v := 100) hx hb dX11_finds_21 (by decide) ?_
      refine lv_idiv hx hb dX11_finds_23 (by decide) ?_
      refine lv_iload_n hx hb dX11_finds_24 rfl (lv_at hl 3 rfl) ?_
      refine lv_bipush (v := 100) hx hb dX11_finds_25 (by decide) ?_
      refine lv_irem hx hb dX11_finds_27 (by decide) ?_
      refine W.eq (g2 := F0 m 28 ls [.int (irm x3 (100 : Int32)), .int (x3 / (100 : Int32)), .ref (eB E + 47)]) rfl ?_
      refine lv_iload_n hx hb dX11_finds_28 rfl (lv_at hl 1 rfl) ?_
      refine lv_iload_n hx hb dX11_finds_29 rfl (lv_at hl 2 rfl) ?_
      obtain ⟨q30, c30, hf⟩ := br_b hf
      refine x_callV (k := 47) (As := [.int (x3 / (100 : Int32)), .int (irm x3 (100 : Int32)), .int x1, .int x2]) (rest := []) (st1 := [.int q30]) X hR (ctX11_beatsAt c30) ml_X11_276 im_X11_beatsAt se_X11_beatsAt in_X11 co_X11_beatsAt yo_X11_beatsAt rfl kX11 (z_47 b) (rm_ok (by decide) (by decide)) rfl hl.1 rfl rfl (Nat.le_of_ble_eq_true rfl) dX11_finds_30 ⟨Nat.zero_le _, Nat.zero_le _⟩ (fun H locs hR => ?_)
      refine lv_istore (lv' := [(4, .int q30), (0, .ref (eB E + 47)), (1, .int x1), (2, .int x2), (3, .int x3)]) hx hb dX11_finds_33 hl (by decide) rfl (fun ls hl => ?_)
      refine lv_aload_n hx hb dX11_finds_35 rfl (lv_at hl 1 rfl) ?_
      refine x_get hx hb hown hts hK hR kX11 (z_47 b) (j := 35) (by decide) fl_X11_88 (v := .ref (eB E + 85)) rfl dX11_finds_36 ?_
      refine lv_iload_n hx hb dX11_finds_39 rfl (lv_at hl 4 rfl) ?_
      refine lv_iload hx hb dX11_finds_40 (lv_at hl 0 rfl) ?_
      refine lv_if_eq (tgt := 50) hx hb dX11_finds_42 (by decide) (fun q42 => ?_) (fun q42 => ?_)
      · have hf := (br_if hf).1 q42
        refine lv_iconst (v := -1) hx hb dX11_finds_50 (by decide) ?_
        exact wX11_finds_51 X (fun hf hR hl => ih hf hR hl) (fun hf hR hl => hk77 hf hR hl) hf hR (lv_sub hl [1, 2, 3, 4, 0] rfl)
      · have hf := (br_if hf).2 q42
        refine lv_bipush (v := -2) hx hb dX11_finds_45 (by decide) ?_
        refine lv_goto (tgt := 51) hx hb dX11_finds_47 (by decide) ?_
        exact wX11_finds_51 X (fun hf hR hl => ih hf hR hl) (fun hf hR hl => hk77 hf hR hl) hf hR (lv_sub hl [1, 2, 3, 4, 0] rfl)
set_option maxHeartbeats 4000000 in
set_option maxRecDepth 100000 in
theorem wX11_finds_119 {M1 : Mem} {k79 : Int32 → Mem → Option Mem} {k125 : Mem → Option Mem} (X : CX E p s m args c meth cX11_finds 5 none RX11) (hk79 : ∀ {x3 : Int32} {M : Mem} {H : Heap} {locs : List Loc} {ls : Array Slot}, k79 x3 M = some M1 → Rl E (sh_ b) (nn b) s.heap M H locs → lv_has ls 5 [(0, .ref (eB E + 47)), (3, .int x3)] → W p l e (rm 6 0 0) s m args below meth c H locs 0 0 (MQ below (qq E none (sh_ b) (nn b) M1) args s 0 0 (fr E)) (F0 m 79 ls [])) (hk125 : ∀ {M : Mem} {H : Heap} {locs : List Loc} {ls : Array Slot}, k125 M = some M1 → Rl E (sh_ b) (nn b) s.heap M H locs → lv_has ls 5 [] → W p l e (rm 6 0 0) s m args below meth c H locs 0 0 (MQ below (qq E none (sh_ b) (nn b) M1) args s 0 0 (fr E)) (F0 m 125 ls [])) : ∀ {x3 : Int32} {M : Mem} {H : Heap} {locs : List Loc} {ls : Array Slot}, fX11_finds_119 k79 k125 x3 M = some M1 → Rl E (sh_ b) (nn b) s.heap M H locs → lv_has ls 5 [(0, .ref (eB E + 47)), (3, .int x3)] → W p l e (rm 6 0 0) s m args below meth c H locs 0 0 (MQ below (qq E none (sh_ b) (nn b) M1) args s 0 0 (fr E)) (F0 m 119 ls []) := by
  obtain ⟨hx, hb, hr, hml, hown, hts, hK, hN, hO, hlk, hbs⟩ := id X
  intro x3 M H locs ls hf hR hl
  unfold fX11_finds_119 at hf
  obtain ⟨v119, e119⟩ : ∃ y : Int32, y = (x3 + (1 : Int32)) := ⟨_, rfl⟩
  have hf := nx_at e119 hf
  refine lv_iinc (v := v119) (lv' := [(3, .int v119), (0, .ref (eB E + 47))]) hx hb dX11_finds_119 hl (k := 1) rfl (by rw [e119]; rfl) (by decide) rfl (fun ls hl => ?_)
  refine lv_goto (tgt := 79) hx hb dX11_finds_122 (by decide) ?_
  exact hk79 hf hR (lv_sub hl [1, 0] rfl)
set_option maxHeartbeats 4000000 in
set_option maxRecDepth 100000 in
theorem wX11_finds_79 {M1 : Mem} {k125 : Mem → Option Mem} (X : CX E p s m args c meth cX11_finds 5 none RX11) (hk125 : ∀ {M : Mem} {H : Heap} {locs : List Loc} {ls : Array Slot}, k125 M = some M1 → Rl E (sh_ b) (nn b) s.heap M H locs → lv_has ls 5 [] → W p l e (rm 6 0 0) s m args below meth c H locs 0 0 (MQ below (qq E none (sh_ b) (nn b) M1) args s 0 0 (fr E)) (F0 m 125 ls [])) : ∀ (n : Nat) {x3 : Int32} {M : Mem} {H : Heap} {locs : List Loc} {ls : Array Slot}, fX11_finds_79 k125 n x3 M = some M1 → Rl E (sh_ b) (nn b) s.heap M H locs → lv_has ls 5 [(0, .ref (eB E + 47)), (3, .int x3)] → W p l e (rm 6 0 0) s m args below meth c H locs 0 0 (MQ below (qq E none (sh_ b) (nn b) M1) args s 0 0 (fr E)) (F0 m 79 ls []) := by
  obtain ⟨hx, hb, hr, hml, hown, hts, hK, hN, hO, hlk, hbs⟩ := id X
  intro n
  induction n with
  | zero =>
    intro x3 M H locs ls hf hR hl
    exact absurd (show none = some _ from hf) (fun h => by cases h)
  | succ n ih =>
    intro x3 M H locs ls hf hR hl
    rw [fX11_finds_79] at hf
    refine lv_iload_n hx hb dX11_finds_79 rfl (lv_at hl 1 rfl) ?_
    refine lv_sipush (v := 10000) hx hb dX11_finds_80 (by decide) ?_
    refine lv_icmp_ge (tgt := 125) hx hb dX11_finds_83 (by decide) (fun q83 => ?_) (fun q83 => ?_)
    · have hf := (br_if hf).1 q83
      exact hk125 hf hR (lv_sub hl [] rfl)
    · have hf := (br_if hf).2 q83
      refine lv_aload_n hx hb dX11_finds_86 rfl (lv_at hl 0 rfl) ?_
      refine x_get hx hb hown hts hK hR kX11 (z_47 b) (j := 35) (by decide) fl_X11_88 (v := .ref (eB E + 85)) rfl dX11_finds_87 ?_
      refine lv_iload_n hx hb dX11_finds_90 rfl (lv_at hl 1 rfl) ?_
      obtain ⟨g91, hf⟩ := br_g hf
      refine x_iald hx hb hK hR (z_85 b) g91 dX11_finds_91 ?_
      refine lv_bipush (v := -2) hx hb dX11_finds_92 (by decide) ?_
      refine lv_icmp_eq (tgt := 100) hx hb dX11_finds_94 (by decide) (fun q94 => ?_) (fun q94 => ?_)
      · have hf := (br_if hf).1 q94
        refine lv_aload_n hx hb dX11_finds_100 rfl (lv_at hl 0 rfl) ?_
        refine lv_iload_n hx hb dX11_finds_101 rfl (lv_at hl 1 rfl) ?_
        refine lv_aload_n hx hb dX11_finds_102 rfl (lv_at hl 0 rfl) ?_
        refine x_get hx hb hown hts hK hR kX11 (z_47 b) (j := 37) (by decide) fl_X11_351 (v := .int (M.1 47 37)) rfl dX11_finds_103 ?_
        obtain ⟨q106, c106, hf⟩ := br_b hf
        refine x_callV (k := 47) (As := [.int x3, .int (M.1 47 37)]) (rest := []) (st1 := []) X hR (ctX11_floods c106) ml_X11_354 im_X11_floods se_X11_floods in_X11 co_X11_floods yo_X11_floods rfl kX11 (z_47 b) (rm_ok (by decide) (by decide)) rfl hl.1 rfl rfl (Nat.le_of_ble_eq_true rfl) dX11_finds_106 ⟨Nat.zero_le _, Nat.zero_le _⟩ (fun H locs hR => ?_)
        refine lv_aload_n hx hb dX11_finds_109 rfl (lv_at hl 0 rfl) ?_
        refine lv_dup hx hb dX11_finds_110 rfl ?_
        refine x_get hx hb hown hts hK hR kX11 (z_47 b) (j := 37) (by decide) fl_X11_351 (v := .int (q106.1 47 37)) rfl dX11_finds_111 ?_
        refine lv_iconst (v := 1) hx hb dX11_finds_114 (by decide) ?_
        refine lv_iadd hx hb dX11_finds_115 ?_
        refine x_puti hx hb hown hts hK hR kX11 (z_47 b) (j := 37) (by decide) fl_X11_351 rfl rfl rfl rfl dX11_finds_116 (fun H locs hR => ?_)
        obtain ⟨M116, e116⟩ : ∃ y : Mem, y = (sI q106 47 37 ((q106.1 47 37) + (1 : Int32))) := ⟨_, rfl⟩
        have hf := nx_at e116 hf
        have hR : Rl E (sh_ b) (nn b) s.heap M116 H locs := by rw [e116]; exact hR
        exact wX11_finds_119 X (fun hf hR hl => ih hf hR hl) (fun hf hR hl => hk125 hf hR hl) hf hR hl
      · have hf := (br_if hf).2 q94
        refine lv_goto (tgt := 119) hx hb dX11_finds_97 (by decide) ?_
        exact wX11_finds_119 X (fun hf hR hl => ih hf hR hl) (fun hf hR hl => hk125 hf hR hl) hf hR hl
set_option maxHeartbeats 4000000 in
set_option maxRecDepth 100000 in
theorem wX11_finds_125 {M1 : Mem} (X : CX E p s m args c meth cX11_finds 5 none RX11) : ∀ {M : Mem} {H : Heap} {locs : List Loc} {ls : Array Slot}, fX11_finds_125 M = some M1 → Rl E (sh_ b) (nn b) s.heap M H locs → lv_has ls 5 [] → W p l e (rm 6 0 0) s m args below meth c H locs 0 0 (MQ below (qq E none (sh_ b) (nn b) M1) args s 0 0 (fr E)) (F0 m 125 ls []) := by
  obtain ⟨hx, hb, hr, hml, hown, hts, hK, hN, hO, hlk, hbs⟩ := id X
  intro M H locs ls hf hR hl
  unfold fX11_finds_125 at hf
  cases hf
  exact x_vret hx hb hr hlk hR dX11_finds_125
set_option maxHeartbeats 4000000 in
set_option maxRecDepth 100000 in
theorem wX11_finds_77 {M1 : Mem} (X : CX E p s m args c meth cX11_finds 5 none RX11) : ∀ {M : Mem} {H : Heap} {locs : List Loc} {ls : Array Slot}, fX11_finds_77 M = some M1 → Rl E (sh_ b) (nn b) s.heap M H locs → lv_has ls 5 [(0, .ref (eB E + 47))] → W p l e (rm 6 0 0) s m args below meth c H locs 0 0 (MQ below (qq E none (sh_ b) (nn b) M1) args s 0 0 (fr E)) (F0 m 77 ls []) := by
  obtain ⟨hx, hb, hr, hml, hown, hts, hK, hN, hO, hlk, hbs⟩ := id X
  intro M H locs ls hf hR hl
  unfold fX11_finds_77 at hf
  refine lv_iconst (v := 0) hx hb dX11_finds_77 (by decide) ?_
  refine lv_istore_n (lv' := [(3, .int (0 : Int32)), (0, .ref (eB E + 47))]) hx hb dX11_finds_78 rfl hl (by decide) rfl (fun ls hl => ?_)
  exact wX11_finds_79 X (fun hf hR hl => wX11_finds_125 X hf hR hl) FU hf hR (lv_sub hl [1, 0] rfl)
set_option maxHeartbeats 4000000 in
set_option maxRecDepth 100000 in
theorem wX11_finds_0 {M1 : Mem} (X : CX E p s m args c meth cX11_finds 5 none RX11) : ∀ {x1 : Int32} {x2 : Int32} {M : Mem} {H : Heap} {locs : List Loc} {ls : Array Slot}, fX11_finds x1 x2 M = some M1 → Rl E (sh_ b) (nn b) s.heap M H locs → lv_has ls 5 [(0, .ref (eB E + 47)), (1, .int x1), (2, .int x2)] → W p l e (rm 6 0 0) s m args below meth c H locs 0 0 (MQ below (qq E none (sh_ b) (nn b) M1) args s 0 0 (fr E)) (F0 m 0 ls []) := by
  obtain ⟨hx, hb, hr, hml, hown, hts, hK, hN, hO, hlk, hbs⟩ := id X
  intro x1 x2 M H locs ls hf hR hl
  unfold fX11_finds at hf
  refine lv_aload_n hx hb dX11_finds_0 rfl (lv_at hl 0 rfl) ?_
  refine lv_iconst (v := 0) hx hb dX11_finds_1 (by decide) ?_
  refine x_puti hx hb hown hts hK hR kX11 (z_47 b) (j := 38) (by decide) fl_X11_348 rfl rfl rfl rfl dX11_finds_2 (fun H locs hR => ?_)
  obtain ⟨M2, e2⟩ : ∃ y : Mem, y = (sI M 47 38 (0 : Int32)) := ⟨_, rfl⟩
  have hf := nx_at e2 hf
  have hR : Rl E (sh_ b) (nn b) s.heap M2 H locs := by rw [e2]; exact hR
  refine lv_aload_n hx hb dX11_finds_5 rfl (lv_at hl 0 rfl) ?_
  refine lv_iconst (v := 0) hx hb dX11_finds_6 (by decide) ?_
  refine x_puti hx hb hown hts hK hR kX11 (z_47 b) (j := 37) (by decide) fl_X11_351 rfl rfl rfl rfl dX11_finds_7 (fun H locs hR => ?_)
  obtain ⟨M7, e7⟩ : ∃ y : Mem, y = (sI M2 47 37 (0 : Int32)) := ⟨_, rfl⟩
  have hf := nx_at e7 hf
  have hR : Rl E (sh_ b) (nn b) s.heap M7 H locs := by rw [e7]; exact hR
  refine lv_iconst (v := 0) hx hb dX11_finds_10 (by decide) ?_
  refine lv_istore_n (lv' := [(3, .int (0 : Int32)), (0, .ref (eB E + 47)), (1, .int x1), (2, .int x2)]) hx hb dX11_finds_11 rfl hl (by decide) rfl (fun ls hl => ?_)
  exact wX11_finds_12 X (fun hf hR hl => wX11_finds_77 X hf hR hl) FU hf hR (lv_sub hl [1, 2, 3, 0] rfl)
theorem ctX11_finds {l : Launch} {E : Ge} {b : Bool} {M : Mem} {x1 : Int32} {x2 : Int32} {M1 : Mem} (h : fX11_finds x1 x2 M = some M1) : CT l E yX11_finds cX11_finds 5 none 6 0 0 [.ref (eB E + 47), .int x1, .int x2] none (sh_ b) (nn b) M (sh_ b) (nn b) M1 := by
  refine met_of (by decide) (Nat.le_of_ble_eq_true rfl) ?_
  intro p e s m args below meth c X _ hR ls hl
  exact wX11_finds_0 X h hR hl
def fX11_votesOf (M : Mem) (x1 : Int32) (x2 : Int32) : Option Int32 := (if inb x1 20 = true then (if inb x1 20 = true then (if inb x2 20 = true then (if inb x2 20 = true then (fX11_forOf M (M.1 68 (ix x1)) (M.1 71 (ix x1)) (M.1 68 (ix x2)) (M.1 71 (ix x2))).bind (fun q33 => some q33) else none) else none) else none) else none)
set_option maxHeartbeats 4000000 in
set_option maxRecDepth 100000 in
theorem wX11_votesOf_0 {r : Int32} {M : Mem} (X : CX E p s m args c meth cX11_votesOf 3 (some .int) RX11) : ∀ {x1 : Int32} {x2 : Int32} {H : Heap} {locs : List Loc} {ls : Array Slot}, fX11_votesOf M x1 x2 = some r → Rl E (sh_ b) (nn b) s.heap M H locs → lv_has ls 3 [(0, .ref (eB E + 47)), (1, .int x1), (2, .int x2)] → W p l e (rm 5 0 0) s m args below meth c H locs 0 0 (MQ below (qq E (some (.int r)) (sh_ b) (nn b) M) args s 0 0 (fr E)) (F0 m 0 ls []) := by
  obtain ⟨hx, hb, hr, hml, hown, hts, hK, hN, hO, hlk, hbs⟩ := id X
  intro x1 x2 H locs ls hf hR hl
  unfold fX11_votesOf at hf
  refine lv_aload_n hx hb dX11_votesOf_0 rfl (lv_at hl 0 rfl) ?_
  refine lv_aload_n hx hb dX11_votesOf_1 rfl (lv_at hl 0 rfl) ?_
  refine x_get hx hb hown hts hK hR kX11 (z_47 b) (j := 12) (by decide) fl_X11_33 (v := .ref (eB E + 67)) rfl dX11_votesOf_2 ?_
  refine lv_iconst (v := 0) hx hb dX11_votesOf_5 (by decide) ?_
  refine x_aald5 hx hb hK hR (z_67 b) (by decide) (r := 68) rfl dX11_votesOf_6 ?_
  refine lv_iload_n hx hb dX11_votesOf_7 rfl (lv_at hl 1 rfl) ?_
  obtain ⟨g8, hf⟩ := br_g hf
  refine x_iald hx hb hK hR (z_68 b) g8 dX11_votesOf_8 ?_
  refine lv_aload_n hx hb dX11_votesOf_9 rfl (lv_at hl 0 rfl) ?_
  refine x_get hx hb hown hts hK hR kX11 (z_47 b) (j := 13) (by decide) fl_X11_36 (v := .ref (eB E + 70)) rfl dX11_votesOf_10 ?_
  refine lv_iconst (v := 0) hx hb dX11_votesOf_13 (by decide) ?_
  refine x_aald5 hx hb hK hR (z_70 b) (by decide) (r := 71) rfl dX11_votesOf_14 ?_
  refine lv_iload_n hx hb dX11_votesOf_15 rfl (lv_at hl 1 rfl) ?_
  obtain ⟨g16, hf⟩ := br_g hf
  refine x_iald hx hb hK hR (z_71 b) g16 dX11_votesOf_16 ?_
  refine lv_aload_n hx hb dX11_votesOf_17 rfl (lv_at hl 0 rfl) ?_
  refine x_get hx hb hown hts hK hR kX11 (z_47 b) (j := 12) (by decide) fl_X11_33 (v := .ref (eB E + 67)) rfl dX11_votesOf_18 ?_
  refine lv_iconst (v := 0) hx hb dX11_votesOf_21 (by decide) ?_
  refine x_aald5 hx hb hK hR (z_67 b) (by decide) (r := 68) rfl dX11_votesOf_22 ?_
  refine lv_iload_n hx hb dX11_votesOf_23 rfl (lv_at hl 2 rfl) ?_
  obtain ⟨g24, hf⟩ := br_g hf
  refine x_iald hx hb hK hR (z_68 b) g24 dX11_votesOf_24 ?_
  refine lv_aload_n hx hb dX11_votesOf_25 rfl (lv_at hl 0 rfl) ?_
  refine x_get hx hb hown hts hK hR kX11 (z_47 b) (j := 13) (by decide) fl_X11_36 (v := .ref (eB E + 70)) rfl dX11_votesOf_26 ?_
  refine lv_iconst (v := 0) hx hb dX11_votesOf_29 (by decide) ?_
  refine x_aald5 hx hb hK hR (z_70 b) (by decide) (r := 71) rfl dX11_votesOf_30 ?_
  refine lv_iload_n hx hb dX11_votesOf_31 rfl (lv_at hl 2 rfl) ?_
  obtain ⟨g32, hf⟩ := br_g hf
  refine x_iald hx hb hK hR (z_71 b) g32 dX11_votesOf_32 ?_
  obtain ⟨q33, c33, hf⟩ := br_b hf
  refine x_callV (k := 47) (As := [.int (M.1 68 (ix x1)), .int (M.1 71 (ix x1)), .int (M.1 68 (ix x2)), .int (M.1 71 (ix x2))]) (rest := []) (st1 := [.int q33]) X hR (ctX11_forOf c33) ml_X11_269 im_X11_forOf se_X11_forOf in_X11 co_X11_forOf yo_X11_forOf rfl kX11 (z_47 b) (rm_ok (by decide) (by decide)) rfl hl.1 rfl rfl (Nat.le_of_ble_eq_true rfl) dX11_votesOf_33 ⟨Nat.zero_le _, Nat.zero_le _⟩ (fun H locs hR => ?_)
  cases hf
  exact x_iret hx hb hr hlk hR dX11_votesOf_36
theorem ctX11_votesOf {l : Launch} {E : Ge} {b : Bool} {M : Mem} {x1 : Int32} {x2 : Int32} {r : Int32} (h : fX11_votesOf M x1 x2 = some r) : CT l E yX11_votesOf cX11_votesOf 3 (some .int) 5 0 0 [.ref (eB E + 47), .int x1, .int x2] (some (.int r)) (sh_ b) (nn b) M (sh_ b) (nn b) M := by
  refine met_of (by decide) (Nat.le_of_ble_eq_true rfl) ?_
  intro p e s m args below meth c X _ hR ls hl
  exact wX11_votesOf_0 X h hR hl
def fX11_gain (M : Mem) (x1 : Int32) (x2 : Int32) : Option Int32 := (fX11_votesOf M x1 x2).bind (fun q3 => (fX11_votesOf M x2 x1).bind (fun q9 => some (q3 - q9)))
set_option maxHeartbeats 4000000 in
set_option maxRecDepth 100000 in
theorem wX11_gain_0 {r : Int32} {M : Mem} (X : CX E p s m args c meth cX11_gain 3 (some .int) RX11) : ∀ {x1 : Int32} {x2 : Int32} {H : Heap} {locs : List Loc} {ls : Array Slot}, fX11_gain M x1 x2 = some r → Rl E (sh_ b) (nn b) s.heap M H locs → lv_has ls 3 [(0, .ref (eB E + 47)), (1, .int x1), (2, .int x2)] → W p l e (rm 6 0 0) s m args below meth c H locs 0 0 (MQ below (qq E (some (.int r)) (sh_ b) (nn b) M) args s 0 0 (fr E)) (F0 m 0 ls []) := by
  obtain ⟨hx, hb, hr, hml, hown, hts, hK, hN, hO, hlk, hbs⟩ := id X
  intro x1 x2 H locs ls hf hR hl
  unfold fX11_gain at hf
  refine lv_aload_n hx hb dX11_gain_0 rfl (lv_at hl 0 rfl) ?_
  refine lv_iload_n hx hb dX11_gain_1 rfl (lv_at hl 1 rfl) ?_
  refine lv_iload_n hx hb dX11_gain_2 rfl (lv_at hl 2 rfl) ?_
  obtain ⟨q3, c3, hf⟩ := br_b hf
  refine x_callV (k := 47) (As := [.int x1, .int x2]) (rest := []) (st1 := [.int q3]) X hR (ctX11_votesOf c3) ml_X11_280 im_X11_votesOf se_X11_votesOf in_X11 co_X11_votesOf yo_X11_votesOf rfl kX11 (z_47 b) (rm_ok (by decide) (by decide)) rfl hl.1 rfl rfl (Nat.le_of_ble_eq_true rfl) dX11_gain_3 ⟨Nat.zero_le _, Nat.zero_le _⟩ (fun H locs hR => ?_)
  refine lv_aload_n hx hb dX11_gain_6 rfl (lv_at hl 0 rfl) ?_
  refine lv_iload_n hx hb dX11_gain_7 rfl (lv_at hl 2 rfl) ?_
  refine lv_iload_n hx hb dX11_gain_8 rfl (lv_at hl 1 rfl) ?_
  obtain ⟨q9, c9, hf⟩ := br_b hf
  refine x_callV (k := 47) (As := [.int x2, .int x1]) (rest := [.int q3]) (st1 := [.int q9, .int q3]) X hR (ctX11_votesOf c9) ml_X11_280 im_X11_votesOf se_X11_votesOf in_X11 co_X11_votesOf yo_X11_votesOf rfl kX11 (z_47 b) (rm_ok (by decide) (by decide)) rfl hl.1 rfl rfl (Nat.le_of_ble_eq_true rfl) dX11_gain_9 ⟨Nat.zero_le _, Nat.zero_le _⟩ (fun H locs hR => ?_)
  refine lv_isub hx hb dX11_gain_12 ?_
  cases hf
  exact x_iret hx hb hr hlk hR dX11_gain_13
theorem ctX11_gain {l : Launch} {E : Ge} {b : Bool} {M : Mem} {x1 : Int32} {x2 : Int32} {r : Int32} (h : fX11_gain M x1 x2 = some r) : CT l E yX11_gain cX11_gain 3 (some .int) 6 0 0 [.ref (eB E + 47), .int x1, .int x2] (some (.int r)) (sh_ b) (nn b) M (sh_ b) (nn b) M := by
  refine met_of (by decide) (Nat.le_of_ble_eq_true rfl) ?_
  intro p e s m args below meth c X _ hR ls hl
  exact wX11_gain_0 X h hR hl
def fX11_coupledB_99 (M : Mem) (self : Int32 → Option Int64) (k30 : Int32 → Int32 → Int64 → Int32 → Int32 → Option Int64) (k105 : Int64 → Option Int64) (x2 : Int32) (x3 : Int32) (y4 : Int64) (x6 : Int32) (x7 : Int32) : Option Int64 := nx (x7 + (1 : Int32)) (fun v99 => k30 x2 x3 y4 x6 v99)
def fX11_coupledB_94 (M : Mem) (self : Int32 → Option Int64) (k30 : Int32 → Int32 → Int64 → Int32 → Int32 → Option Int64) (k105 : Int64 → Option Int64) (x2 : Int32) (x3 : Int32) (y4 : Int64) (x6 : Int32) (x7 : Int32) : Option Int64 := nx (-x6) (fun v97 => fX11_coupledB_99 M self k30 k105 x2 x3 y4 v97 x7)
def fX11_coupledB_30 (M : Mem) (self : Int32 → Option Int64) (k105 : Int64 → Option Int64) : Nat → Int32 → Int32 → Int64 → Int32 → Int32 → Option Int64
  | 0, _, _, _, _, _ => none
  | n + 1, x2, x3, y4, x6, x7 => (if (8 : Int32) ≤ x7 then k105 y4 else (if ((x3 >>> (x7 &&& 31)) &&& (1 : Int32)) = 0 then fX11_coupledB_99 M self (fX11_coupledB_30 M self k105 n) k105 x2 x3 y4 x6 x7 else (if inb x2 8 = true then (if inb x7 8 = true then (if (lg_cmp (M.2 (89 + ix x2) (ix x7)) (0 : Int64)) = 0 then fX11_coupledB_94 M self (fX11_coupledB_30 M self k105 n) k105 x2 x3 y4 x6 x7 else (if inb x2 8 = true then (if inb x7 8 = true then (self (x3 &&& (((1 : Int32) <<< (x7 &&& 31)) ^^^ (-1 : Int32)))).bind (fun q87 => nx (y4 + ((x6.toInt64 * (M.2 (89 + ix x2) (ix x7))) * q87)) (fun v92 => fX11_coupledB_94 M self (fX11_coupledB_30 M self k105 n) k105 x2 x3 v92 x6 x7)) else none) else none)) else none) else none)))
def fX11_coupledB_105 (M : Mem) (self : Int32 → Option Int64) (y4 : Int64) : Option Int64 := some y4
def fX11_coupledB (M : Mem) (self : Int32 → Option Int64) (x1 : Int32) : Option Int64 := (if x1 = 0 then some (1 : Int64) else (fJ6_numberOfTrailingZeros_0f7a4 M x1).bind (fun q7 => nx (x1 &&& (((1 : Int32) <<< (q7 &&& 31)) ^^^ (-1 : Int32))) (fun v18 => nx (q7 + (1 : Int32)) (fun v28 => fX11_coupledB_30 M self (fX11_coupledB_105 M self) FU q7 v18 (0 : Int64) (1 : Int32) v28))))
set_option maxHeartbeats 4000000 in
set_option maxRecDepth 100000 in
theorem wX11_coupledB_99 {r : Int64} {M : Mem} {dd : Nat} {self : Int32 → Option Int64} (hself : ∀ {z : Int32} {q : Int64}, self z = some q → CT l E yX11_coupled cX11_coupled 8 (some .long) dd 0 0 [.ref (eB E + 47), .int z] (some (.long q)) (sh_ b) (nn b) M (sh_ b) (nn b) M) {k30 : Int32 → Int32 → Int64 → Int32 → Int32 → Option Int64} {k105 : Int64 → Option Int64} (X : CX E p s m args c meth cX11_coupled 8 (some .long) RX11) (hk30 : ∀ {x2 : Int32} {x3 : Int32} {y4 : Int64} {x6 : Int32} {x7 : Int32} {H : Heap} {locs : List Loc} {ls : Array Slot}, k30 x2 x3 y4 x6 x7 = some r → Rl E (sh_ b) (nn b) s.heap M H locs → lv_has ls 8 [(0, .ref (eB E + 47)), (2, .int x2), (3, .int x3), (4, .long y4), (6, .int x6), (7, .int x7)] → W p l e (rm (dd + 2) 0 0) s m args below meth c H locs 0 0 (MQ below (qq E (some (.long r)) (sh_ b) (nn b) M) args s 0 0 (fr E)) (F0 m 30 ls [])) (hk105 : ∀ {y4 : Int64} {H : Heap} {locs : List Loc} {ls : Array Slot}, k105 y4 = some r → Rl E (sh_ b) (nn b) s.heap M H locs → lv_has ls 8 [(4, .long y4)] → W p l e (rm (dd + 2) 0 0) s m args below meth c H locs 0 0 (MQ below (qq E (some (.long r)) (sh_ b) (nn b) M) args s 0 0 (fr E)) (F0 m 105 ls [])) : ∀ {x2 : Int32} {x3 : Int32} {y4 : Int64} {x6 : Int32} {x7 : Int32} {H : Heap} {locs : List Loc} {ls : Array Slot}, fX11_coupledB_99 M self k30 k105 x2 x3 y4 x6 x7 = some r → Rl E (sh_ b) (nn b) s.heap M H locs → lv_has ls 8 [(0, .ref (eB E + 47)), (2, .int x2), (3, .int x3), (4, .long y4), (6, .int x6), (7, .int x7)] → W p l e (rm (dd + 2) 0 0) s m args below meth c H locs 0 0 (MQ below (qq E (some (.long r)) (sh_ b) (nn b) M) args s 0 0 (fr E)) (F0 m 99 ls []) := by
  obtain ⟨hx, hb, hr, hml, hown, hts, hK, hN, hO, hlk, hbs⟩ := id X
  intro x2 x3 y4 x6 x7 H locs ls hf hR hl
  unfold fX11_coupledB_99 at hf
  obtain ⟨v99, e99⟩ : ∃ y : Int32, y = (x7 + (1 : Int32)) := ⟨_, rfl⟩
  have hf := nx_at e99 hf
  refine lv_iinc (v := v99) (lv' := [(7, .int v99), (0, .ref (eB E + 47)), (2, .int x2), (3, .int x3), (4, .long y4), (6, .int x6)]) hx hb dX11_coupled_99 hl (k := 5) rfl (by rw [e99]; rfl) (by decide) rfl (fun ls hl => ?_)
  refine lv_goto (tgt := 30) hx hb dX11_coupled_102 (by decide) ?_
  exact hk30 hf hR (lv_sub hl [1, 2, 3, 4, 5, 0] rfl)
set_option maxHeartbeats 4000000 in
set_option maxRecDepth 100000 in
theorem wX11_coupledB_94 {r : Int64} {M : Mem} {dd : Nat} {self : Int32 → Option Int64} (hself : ∀ {z : Int32} {q : Int64}, self z = some q → CT l E yX11_coupled cX11_coupled 8 (some .long) dd 0 0 [.ref (eB E + 47), .int z] (some (.long q)) (sh_ b) (nn b) M (sh_ b) (nn b) M) {k30 : Int32 → Int32 → Int64 → Int32 → Int32 → Option Int64} {k105 : Int64 → Option Int64} (X : CX E p s m args c meth cX11_coupled 8 (some .long) RX11) (hk30 : ∀ {x2 : Int32} {x3 : Int32} {y4 : Int64} {x6 : Int32} {x7 : Int32} {H : Heap} {locs : List Loc} {ls : Array Slot}, k30 x2 x3 y4 x6 x7 = some r → Rl E (sh_ b) (nn b) s.heap M H locs → lv_has ls 8 [(0, .ref (eB E + 47)), (2, .int x2), (3, .int x3), (4, .long y4), (6, .int x6), (7, .int x7)] → W p l e (rm (dd + 2) 0 0) s m args below meth c H locs 0 0 (MQ below (qq E (some (.long r)) (sh_ b) (nn b) M) args s 0 0 (fr E)) (F0 m 30 ls [])) (hk105 : ∀ {y4 : Int64} {H : Heap} {locs : List Loc} {ls : Array Slot}, k105 y4 = some r → Rl E (sh_ b) (nn b) s.heap M H locs → lv_has ls 8 [(4, .long y4)] → W p l e (rm (dd + 2) 0 0) s m args below meth c H locs 0 0 (MQ below (qq E (some (.long r)) (sh_ b) (nn b) M) args s 0 0 (fr E)) (F0 m 105 ls [])) : ∀ {x2 : Int32} {x3 : Int32} {y4 : Int64} {x6 : Int32} {x7 : Int32} {H : Heap} {locs : List Loc} {ls : Array Slot}, fX11_coupledB_94 M self k30 k105 x2 x3 y4 x6 x7 = some r → Rl E (sh_ b) (nn b) s.heap M H locs → lv_has ls 8 [(0, .ref (eB E + 47)), (2, .int x2), (3, .int x3), (4, .long y4), (6, .int x6), (7, .int x7)] → W p l e (rm (dd + 2) 0 0) s m args below meth c H locs 0 0 (MQ below (qq E (some (.long r)) (sh_ b) (nn b) M) args s 0 0 (fr E)) (F0 m 94 ls []) := by
  obtain ⟨hx, hb, hr, hml, hown, hts, hK, hN, hO, hlk, hbs⟩ := id X
  intro x2 x3 y4 x6 x7 H locs ls hf hR hl
  unfold fX11_coupledB_94 at hf
  refine lv_iload hx hb dX11_coupled_94 (lv_at hl 4 rfl) ?_
  refine lv_ineg hx hb dX11_coupled_96 ?_
  refine lv_topi (fun v97 e97 => ?_)
  have hf := nx_at e97 hf
  refine lv_istore (lv' := [(6, .int v97), (0, .ref (eB E + 47)), (2, .int x2), (3, .int x3), (4, .long y4), (7, .int x7)]) hx hb dX11_coupled_97 hl (by decide) rfl (fun ls hl => ?_)
  exact wX11_coupledB_99 hself X (fun hf hR hl => hk30 hf hR hl) (fun hf hR hl => hk105 hf hR hl) hf hR (lv_sub hl [1, 2, 3, 4, 0, 5] rfl)
set_option maxHeartbeats 4000000 in
set_option maxRecDepth 100000 in
theorem wX11_coupledB_30 {r : Int64} {M : Mem} {dd : Nat} {self : Int32 → Option Int64} (hself : ∀ {z : Int32} {q : Int64}, self z = some q → CT l E yX11_coupled cX11_coupled 8 (some .long) dd 0 0 [.ref (eB E + 47), .int z] (some (.long q)) (sh_ b) (nn b) M (sh_ b) (nn b) M) {k105 : Int64 → Option Int64} (X : CX E p s m args c meth cX11_coupled 8 (some .long) RX11) (hk105 : ∀ {y4 : Int64} {H : Heap} {locs : List Loc} {ls : Array Slot}, k105 y4 = some r → Rl E (sh_ b) (nn b) s.heap M H locs → lv_has ls 8 [(4, .long y4)] → W p l e (rm (dd + 2) 0 0) s m args below meth c H locs 0 0 (MQ below (qq E (some (.long r)) (sh_ b) (nn b) M) args s 0 0 (fr E)) (F0 m 105 ls [])) : ∀ (n : Nat) {x2 : Int32} {x3 : Int32} {y4 : Int64} {x6 : Int32} {x7 : Int32} {H : Heap} {locs : List Loc} {ls : Array Slot}, fX11_coupledB_30 M self k105 n x2 x3 y4 x6 x7 = some r → Rl E (sh_ b) (nn b) s.heap M H locs → lv_has ls 8 [(0, .ref (eB E + 47)), (2, .int x2), (3, .int x3), (4, .long y4), (6, .int x6), (7, .int x7)] → W p l e (rm (dd + 2) 0 0) s m args below meth c H locs 0 0 (MQ below (qq E (some (.long r)) (sh_ b) (nn b) M) args s 0 0 (fr E)) (F0 m 30 ls []) := by
  obtain ⟨hx, hb, hr, hml, hown, hts, hK, hN, hO, hlk, hbs⟩ := id X
  intro n
  induction n with
  | zero =>
    intro x2 x3 y4 x6 x7 H locs ls hf hR hl
    exact absurd (show none = some _ from hf) (fun h => by cases h)
  | succ n ih =>
    intro x2 x3 y4 x6 x7 H locs ls hf hR hl
    rw [fX11_coupledB_30] at hf
    refine lv_iload hx hb dX11_coupled_30 (lv_at hl 5 rfl) ?_
    refine lv_bipush (v := 8) hx hb dX11_coupled_32 (by decide) ?_
    refine lv_icmp_ge (tgt := 105) hx hb dX11_coupled_34 (by decide) (fun q34 => ?_) (fun q34 => ?_)
    · have hf := (br_if hf).1 q34
      exact hk105 hf hR (lv_sub hl [3] rfl)
    · have hf := (br_if hf).2 q34
      refine lv_iload_n hx hb dX11_coupled_37 rfl (lv_at hl 2 rfl) ?_
      refine lv_iload hx hb dX11_coupled_38 (lv_at hl 5 rfl) ?_
      refine lv_ishr hx hb dX11_coupled_40 ?_
      refine lv_iconst (v := 1) hx hb dX11_coupled_41 (by decide) ?_
      refine lv_iand hx hb dX11_coupled_42 ?_
      refine lv_if_ne (tgt := 49) hx hb dX11_coupled_43 (by decide) (fun q43 => ?_) (fun q43 => ?_)
      · have hf := (br_if hf).2 q43
        refine lv_aload_n hx hb dX11_coupled_49 rfl (lv_at hl 0 rfl) ?_
        refine x_get hx hb hown hts hK hR kX11 (z_47 b) (j := 40) (by decide) fl_X11_99 (v := .ref (eB E + 88)) rfl dX11_coupled_50 ?_
        refine lv_iload_n hx hb dX11_coupled_53 rfl (lv_at hl 1 rfl) ?_
        obtain ⟨g54, hf⟩ := br_g hf
        refine x_aald6 hx hb hK hR (z_88 b) g54 (r := (89 + ix x2)) (zq_88 g54) dX11_coupled_54 ?_
        refine lv_iload hx hb dX11_coupled_55 (lv_at hl 5 rfl) ?_
        obtain ⟨g57, hf⟩ := br_g hf
        refine x_lald hx hb hK hR (zr_88 b g54) g57 dX11_coupled_57 ?_
        refine lv_lconst (v := 0) hx hb dX11_coupled_58 (by decide) ?_
        refine W.lcmp hx hb dX11_coupled_59 ?_
        refine lv_if_eq (tgt := 94) hx hb dX11_coupled_60 (by decide) (fun q60 => ?_) (fun q60 => ?_)
        · have hf := (br_if hf).1 q60
          exact wX11_coupledB_94 hself X (fun hf hR hl => ih hf hR hl) (fun hf hR hl => hk105 hf hR hl) hf hR hl
        · have hf := (br_if hf).2 q60
          refine lv_lload hx hb dX11_coupled_63 (lv_at hl 3 rfl) ?_
          refine lv_iload hx hb dX11_coupled_65 (lv_at hl 4 rfl) ?_
          refine lv_i2l (v := x6.toInt64) hx hb dX11_coupled_67 rfl ?_
          refine lv_aload_n hx hb dX11_coupled_68 rfl (lv_at hl 0 rfl) ?_
          refine x_get hx hb hown hts hK hR kX11 (z_47 b) (j := 40) (by decide) fl_X11_99 (v := .ref (eB E + 88)) rfl dX11_coupled_69 ?_
          refine lv_iload_n hx hb dX11_coupled_72 rfl (lv_at hl 1 rfl) ?_
          obtain ⟨g73, hf⟩ := br_g hf
          refine x_aald6 hx hb hK hR (z_88 b) g73 (r := (89 + ix x2)) (zq_88 g73) dX11_coupled_73 ?_
          refine lv_iload hx hb dX11_coupled_74 (lv_at hl 5 rfl) ?_
          obtain ⟨g76, hf⟩ := br_g hf
          refine x_lald hx hb hK hR (zr_88 b g73) g76 dX11_coupled_76 ?_
          refine lv_lmul hx hb dX11_coupled_77 ?_
          refine lv_aload_n hx hb dX11_coupled_78 rfl (lv_at hl 0 rfl) ?_
          refine lv_iload_n hx hb dX11_coupled_79 rfl (lv_at hl 2 rfl) ?_
          refine lv_iconst (v := 1) hx hb dX11_coupled_80 (by decide) ?_
          refine lv_iload hx hb dX11_coupled_81 (lv_at hl 5 rfl) ?_
          refine lv_ishl hx hb dX11_coupled_83 ?_
          refine lv_iconst (v := -1) hx hb dX11_coupled_84 (by decide) ?_
          refine lv_ixor hx hb dX11_coupled_85 ?_
          refine lv_iand hx hb dX11_coupled_86 ?_
          obtain ⟨q87, c87, hf⟩ := br_b hf
          refine x_callV (k := 47) (As := [.int (x3 &&& (((1 : Int32) <<< (x7 &&& 31)) ^^^ (-1 : Int32)))]) (rest := [.long (x6.toInt64 * (M.2 (89 + ix x2) (ix x7))), .long y4]) (st1 := [.long q87, .long (x6.toInt64 * (M.2 (89 + ix x2) (ix x7))), .long y4]) X hR (hself c87) ml_X11_383 im_X11_coupled se_X11_coupled in_X11 co_X11_coupled yo_X11_coupled rfl kX11 (z_47 b) (rm_ok (by omega) (by decide)) rfl hl.1 rfl rfl (Nat.le_of_ble_eq_true rfl) dX11_coupled_87 ⟨Nat.zero_le _, Nat.zero_le _⟩ (fun H locs hR => ?_)
          refine lv_lmul hx hb dX11_coupled_90 ?_
          refine lv_ladd hx hb dX11_coupled_91 ?_
          refine lv_topl (fun v92 e92 => ?_)
          have hf := nx_at e92 hf
          refine lv_lstore (lv' := [(4, .long v92), (0, .ref (eB E + 47)), (2, .int x2), (3, .int x3), (6, .int x6), (7, .int x7)]) hx hb dX11_coupled_92 hl (by decide) rfl (fun ls hl => ?_)
          exact wX11_coupledB_94 hself X (fun hf hR hl => ih hf hR hl) (fun hf hR hl => hk105 hf hR hl) hf hR (lv_sub hl [1, 2, 3, 0, 4, 5] rfl)
      · have hf := (br_if hf).1 q43
        refine lv_goto (tgt := 99) hx hb dX11_coupled_46 (by decide) ?_
        exact wX11_coupledB_99 hself X (fun hf hR hl => ih hf hR hl) (fun hf hR hl => hk105 hf hR hl) hf hR hl
set_option maxHeartbeats 4000000 in
set_option maxRecDepth 100000 in
theorem wX11_coupledB_105 {r : Int64} {M : Mem} {dd : Nat} {self : Int32 → Option Int64} (hself : ∀ {z : Int32} {q : Int64}, self z = some q → CT l E yX11_coupled cX11_coupled 8 (some .long) dd 0 0 [.ref (eB E + 47), .int z] (some (.long q)) (sh_ b) (nn b) M (sh_ b) (nn b) M) (X : CX E p s m args c meth cX11_coupled 8 (some .long) RX11) : ∀ {y4 : Int64} {H : Heap} {locs : List Loc} {ls : Array Slot}, fX11_coupledB_105 M self y4 = some r → Rl E (sh_ b) (nn b) s.heap M H locs → lv_has ls 8 [(4, .long y4)] → W p l e (rm (dd + 2) 0 0) s m args below meth c H locs 0 0 (MQ below (qq E (some (.long r)) (sh_ b) (nn b) M) args s 0 0 (fr E)) (F0 m 105 ls []) := by
  obtain ⟨hx, hb, hr, hml, hown, hts, hK, hN, hO, hlk, hbs⟩ := id X
  intro y4 H locs ls hf hR hl
  unfold fX11_coupledB_105 at hf
  refine lv_lload hx hb dX11_coupled_105 (lv_at hl 0 rfl) ?_
  cases hf
  exact x_lret hx hb hr hlk hR dX11_coupled_107
set_option maxHeartbeats 4000000 in
set_option maxRecDepth 100000 in
theorem wX11_coupledB_0 {r : Int64} {M : Mem} {dd : Nat} {self : Int32 → Option Int64} (hself : ∀ {z : Int32} {q : Int64}, self z = some q → CT l E yX11_coupled cX11_coupled 8 (some .long) dd 0 0 [.ref (eB E + 47), .int z] (some (.long q)) (sh_ b) (nn b) M (sh_ b) (nn b) M) (X : CX E p s m args c meth cX11_coupled 8 (some .long) RX11) : ∀ {x1 : Int32} {H : Heap} {locs : List Loc} {ls : Array Slot}, fX11_coupledB M self x1 = some r → Rl E (sh_ b) (nn b) s.heap M H locs → lv_has ls 8 [(0, .ref (eB E + 47)), (1, .int x1)] → W p l e (rm (dd + 2) 0 0) s m args below meth c H locs 0 0 (MQ below (qq E (some (.long r)) (sh_ b) (nn b) M) args s 0 0 (fr E)) (F0 m 0 ls []) := by
  obtain ⟨hx, hb, hr, hml, hown, hts, hK, hN, hO, hlk, hbs⟩ := id X
  intro x1 H locs ls hf hR hl
  unfold fX11_coupledB at hf
  refine lv_iload_n hx hb dX11_coupled_0 rfl (lv_at hl 1 rfl) ?_
  refine lv_if_ne (tgt := 6) hx hb dX11_coupled_1 (by decide) (fun q1 => ?_) (fun q1 => ?_)
  · have hf := (br_if hf).2 q1
    refine lv_iload_n hx hb dX11_coupled_6 rfl (lv_at hl 1 rfl) ?_
    obtain ⟨q7, c7, hf⟩ := br_b hf
    refine x_callS (As := [.int x1]) (rest := []) (st1 := [.int q7]) X hR (ctJ6_numberOfTrailingZeros_0f7a4 c7) ml_X11_378 st_J6_numberOfTrailingZeros_0f7a4 in_J6 co_J6_numberOfTrailingZeros_0f7a4 yo_J6_numberOfTrailingZeros_0f7a4 (rm_ok (by omega) (by decide)) rfl hl.1 rfl rfl (Nat.le_of_ble_eq_true rfl) dX11_coupled_7 ⟨Nat.zero_le _, Nat.zero_le _⟩ (fun H locs hR => ?_)
    refine lv_istore_n (lv' := [(2, .int q7), (0, .ref (eB E + 47)), (1, .int x1)]) hx hb dX11_coupled_10 rfl hl (by decide) rfl (fun ls hl => ?_)
    refine lv_iload_n hx hb dX11_coupled_11 rfl (lv_at hl 2 rfl) ?_
    refine lv_iconst (v := 1) hx hb dX11_coupled_12 (by decide) ?_
    refine lv_iload_n hx hb dX11_coupled_13 rfl (lv_at hl 0 rfl) ?_
    refine lv_ishl hx hb dX11_coupled_14 ?_
    refine lv_iconst (v := -1) hx hb dX11_coupled_15 (by decide) ?_
    refine lv_ixor hx hb dX11_coupled_16 ?_
    refine lv_iand hx hb dX11_coupled_17 ?_
    refine lv_topi (fun v18 e18 => ?_)
    have hf := nx_at e18 hf
    refine lv_istore_n (lv' := [(3, .int v18), (2, .int q7), (0, .ref (eB E + 47)), (1, .int x1)]) hx hb dX11_coupled_18 rfl hl (by decide) rfl (fun ls hl => ?_)
    refine lv_lconst (v := 0) hx hb dX11_coupled_19 (by decide) ?_
    refine lv_lstore (lv' := [(4, .long (0 : Int64)), (3, .int v18), (2, .int q7), (0, .ref (eB E + 47)), (1, .int x1)]) hx hb dX11_coupled_20 hl (by decide) rfl (fun ls hl => ?_)
    refine lv_iconst (v := 1) hx hb dX11_coupled_22 (by decide) ?_
    refine lv_istore (lv' := [(6, .int (1 : Int32)), (4, .long (0 : Int64)), (3, .int v18), (2, .int q7), (0, .ref (eB E + 47)), (1, .int x1)]) hx hb dX11_coupled_23 hl (by decide) rfl (fun ls hl => ?_)
    refine lv_iload_n hx hb dX11_coupled_25 rfl (lv_at hl 3 rfl) ?_
    refine lv_iconst (v := 1) hx hb dX11_coupled_26 (by decide) ?_
    refine lv_iadd hx hb dX11_coupled_27 ?_
    refine lv_topi (fun v28 e28 => ?_)
    have hf := nx_at e28 hf
    refine lv_istore (lv' := [(7, .int v28), (6, .int (1 : Int32)), (4, .long (0 : Int64)), (3, .int v18), (2, .int q7), (0, .ref (eB E + 47)), (1, .int x1)]) hx hb dX11_coupled_28 hl (by decide) rfl (fun ls hl => ?_)
    exact wX11_coupledB_30 hself X (fun hf hR hl => wX11_coupledB_105 hself X hf hR hl) FU hf hR (lv_sub hl [5, 4, 3, 2, 1, 0] rfl)
  · have hf := (br_if hf).1 q1
    refine lv_lconst (v := 1) hx hb dX11_coupled_4 (by decide) ?_
    cases hf
    exact x_lret hx hb hr hlk hR dX11_coupled_5
theorem ctX11_coupledB {l : Launch} {E : Ge} {b : Bool} {M : Mem} {dd : Nat} {self : Int32 → Option Int64} (hself : ∀ {z : Int32} {q : Int64}, self z = some q → CT l E yX11_coupled cX11_coupled 8 (some .long) dd 0 0 [.ref (eB E + 47), .int z] (some (.long q)) (sh_ b) (nn b) M (sh_ b) (nn b) M) {x1 : Int32} {r : Int64} (h : fX11_coupledB M self x1 = some r) : CT l E yX11_coupled cX11_coupled 8 (some .long) (dd + 2) 0 0 [.ref (eB E + 47), .int x1] (some (.long r)) (sh_ b) (nn b) M (sh_ b) (nn b) M := by
  refine met_of (by decide) (Nat.le_of_ble_eq_true rfl) ?_
  intro p e s m args below meth c X _ hR ls hl
  exact wX11_coupledB_0 hself X h hR hl
def fX11_coupledR (M : Mem) : Nat → Int32 → Option Int64
  | 0, _ => none
  | n + 1, x => fX11_coupledB M (fX11_coupledR M n) x
theorem ctX11_coupledR {l : Launch} {E : Ge} {b : Bool} {M : Mem} : ∀ (n : Nat) {x1 : Int32} {r : Int64}, fX11_coupledR M n x1 = some r → CT l E yX11_coupled cX11_coupled 8 (some .long) (2 * n) 0 0 [.ref (eB E + 47), .int x1] (some (.long r)) (sh_ b) (nn b) M (sh_ b) (nn b) M := by
  intro n
  induction n with
  | zero => intro x1 r h; exact absurd (show none = some _ from h) (fun h => by cases h)
  | succ n ih =>
    intro x1 r h
    exact ctX11_coupledB (dd := 2 * n) ih (show fX11_coupledB M (fX11_coupledR M n) x1 = some r from h)
def fX11_coupled (M : Mem) (x1 : Int32) : Option Int64 := fX11_coupledR M 10 x1
theorem ctX11_coupled {l : Launch} {E : Ge} {b : Bool} {M : Mem} {x1 : Int32} {r : Int64} (h : fX11_coupled M x1 = some r) : CT l E yX11_coupled cX11_coupled 8 (some .long) 20 0 0 [.ref (eB E + 47), .int x1] (some (.long r)) (sh_ b) (nn b) M (sh_ b) (nn b) M := ctX11_coupledR 10 h
def fX11_isLot_121 (k13 : Int32 → Int32 → Int64 → Int32 → Int32 → Int32 → Mem → Option (Int32 × Mem)) (k127 : Int32 → Int64 → Int32 → Int32 → Mem → Option (Int32 × Mem)) (x1 : Int32) (x2 : Int32) (y3 : Int64) (x5 : Int32) (x6 : Int32) (x7 : Int32) (M : Mem) : Option (Int32 × Mem) := nx (x7 + (1 : Int32)) (fun v121 => k13 x1 x2 y3 x5 x6 v121 M)
def fX11_isLot_106 (k13 : Int32 → Int32 → Int64 → Int32 → Int32 → Int32 → Mem → Option (Int32 × Mem)) (k127 : Int32 → Int64 → Int32 → Int32 → Mem → Option (Int32 × Mem)) (x1 : Int32) (x2 : Int32) (y3 : Int64) (x6 : Int32) (x7 : Int32) (s0 : Int32) (s1 : Int32) (M : Mem) : Option (Int32 × Mem) := nx (s0 + s1) (fun v107 => (if inb x7 8 = true then (fX11_gcd M y3 (M.2 97 (ix x7))).bind (fun q117 => fX11_isLot_121 k13 k127 x1 x2 q117 v107 x6 x7 M) else none))
def fX11_isLot_84 (k13 : Int32 → Int32 → Int64 → Int32 → Int32 → Int32 → Mem → Option (Int32 × Mem)) (k127 : Int32 → Int64 → Int32 → Int32 → Mem → Option (Int32 × Mem)) (x1 : Int32) (x2 : Int32) (y3 : Int64) (x5 : Int32) (x7 : Int32) (s0 : Int32) (s1 : Int32) (M : Mem) : Option (Int32 × Mem) := nx (s0 + s1) (fun v85 => (if inb x7 8 = true then (if 0 ≤ (lg_cmp (M.2 97 (ix x7)) (0 : Int64)) then fX11_isLot_106 k13 k127 x1 x2 y3 v85 x7 x5 (0 : Int32) M else fX11_isLot_106 k13 k127 x1 x2 y3 v85 x7 x5 (1 : Int32) M) else none))
def fX11_isLot_13 (k127 : Int32 → Int64 → Int32 → Int32 → Mem → Option (Int32 × Mem)) : Nat → Int32 → Int32 → Int64 → Int32 → Int32 → Int32 → Mem → Option (Int32 × Mem)
  | 0, _, _, _, _, _, _, _ => none
  | n + 1, x1, x2, y3, x5, x6, x7, M => (if (8 : Int32) ≤ x7 then k127 x1 y3 x5 x6 M else (if inb x7 8 = true then nx (sL M 97 (ix x7) (0 : Int64)) (fun M27 => (if ((x1 >>> (x7 &&& 31)) &&& (1 : Int32)) = 0 then fX11_isLot_121 (fX11_isLot_13 k127 n) k127 x1 x2 y3 x5 x6 x7 M27 else (fX11_coupled M27 (x1 &&& (((1 : Int32) <<< (x7 &&& 31)) ^^^ (-1 : Int32)))).bind (fun q57 => (if inb x7 8 = true then nx (sL M27 97 (ix x7) (x2.toInt64 * q57)) (fun M61 => nx (-x2) (fun v64 => (if inb x7 8 = true then (if (lg_cmp (M61.2 97 (ix x7)) (0 : Int64)) ≤ 0 then fX11_isLot_84 (fX11_isLot_13 k127 n) k127 x1 v64 y3 x5 x7 x6 (0 : Int32) M61 else fX11_isLot_84 (fX11_isLot_13 k127 n) k127 x1 v64 y3 x5 x7 x6 (1 : Int32) M61) else none))) else none)))) else none))
def fX11_isLot_188 (k152 : Int64 → Int32 → Int32 → Mem → Option (Int32 × Mem)) (k197 : Mem → Option (Int32 × Mem)) (y3 : Int64) (x5 : Int32) (x8 : Int32) (s1 : Int32) (t2 : Int64) (M : Mem) : Option (Int32 × Mem) := (if ¬ y3 = 0 then (if inb s1 8 = true then nx (sL M 97 (ix s1) (t2 / y3)) (fun M190 => nx (x8 + (1 : Int32)) (fun v191 => k152 y3 x5 v191 M190)) else none) else none)
def fX11_isLot_152 (k197 : Mem → Option (Int32 × Mem)) : Nat → Int64 → Int32 → Int32 → Mem → Option (Int32 × Mem)
  | 0, _, _, _, _ => none
  | n + 1, y3, x5, x8, M => (if (8 : Int32) ≤ x8 then k197 M else (if x5 ≤ 0 then (if inb x8 8 = true then fX11_isLot_188 (fX11_isLot_152 k197 n) k197 y3 x5 x8 x8 ((M.2 97 (ix x8))) M else none) else (if inb x8 8 = true then fX11_isLot_188 (fX11_isLot_152 k197 n) k197 y3 x5 x8 x8 ((-(M.2 97 (ix x8)))) M else none)))
def fX11_isLot_215 (k253 : Int32 → Int64 → Mem → Option (Int32 × Mem)) : Nat → Int32 → Int64 → Int32 → Mem → Option (Int32 × Mem)
  | 0, _, _, _, _ => none
  | n + 1, x8, y9, x11, M => (fX11_chosen M).bind (fun q218 => (if q218 ≤ x11 then k253 x8 y9 M else (if inb x8 8 = true then (if inb x11 8 = true then (if inb x11 8 = true then nx (y9 + ((M.2 (89 + ix x8) (ix x11)) * (M.2 97 (ix x11)))) (fun v245 => nx (x11 + (1 : Int32)) (fun v247 => fX11_isLot_215 k253 n x8 v245 v247 M)) else none) else none) else none)))
def fX11_isLot_253 (k200 : Int32 → Mem → Option (Int32 × Mem)) (k260 : Mem → Option (Int32 × Mem)) (k268 : Mem → Option (Int32 × Mem)) (x8 : Int32) (y9 : Int64) (M : Mem) : Option (Int32 × Mem) := (if (lg_cmp y9 (0 : Int64)) ≤ 0 then nx (x8 + (1 : Int32)) (fun v262 => k200 v262 M) else k260 M)
def fX11_isLot_200 (k260 : Mem → Option (Int32 × Mem)) (k268 : Mem → Option (Int32 × Mem)) : Nat → Int32 → Mem → Option (Int32 × Mem)
  | 0, _, _ => none
  | n + 1, x8, M => (fX11_chosen M).bind (fun q203 => (if q203 ≤ x8 then k268 M else fX11_isLot_215 (fX11_isLot_253 (fX11_isLot_200 k260 k268 n) k260 k268) FU x8 (0 : Int64) (0 : Int32) M))
def fX11_isLot_260 (M : Mem) : Option (Int32 × Mem) := some ((0 : Int32), M)
def fX11_isLot_268 (M : Mem) : Option (Int32 × Mem) := some ((1 : Int32), M)
def fX11_isLot_197 (M : Mem) : Option (Int32 × Mem) := fX11_isLot_200 fX11_isLot_260 fX11_isLot_268 FU (0 : Int32) M
def fX11_isLot_149 (y3 : Int64) (x5 : Int32) (M : Mem) : Option (Int32 × Mem) := fX11_isLot_152 fX11_isLot_197 FU y3 x5 (0 : Int32) M
def fX11_isLot_127 (x1 : Int32) (y3 : Int64) (x5 : Int32) (x6 : Int32) (M : Mem) : Option (Int32 × Mem) := (fJ6_bitCount_0f7a4 M x1).bind (fun q128 => (if x6 = q128 then fX11_isLot_149 y3 x5 M else (if x5 = q128 then fX11_isLot_149 y3 x5 M else some ((0 : Int32), M))))
def fX11_isLot (x1 : Int32) (M : Mem) : Option (Int32 × Mem) := fX11_isLot_13 fX11_isLot_127 FU x1 (1 : Int32) (0 : Int64) (0 : Int32) (0 : Int32) (0 : Int32) M
set_option maxHeartbeats 4000000 in
set_option maxRecDepth 100000 in
theorem wX11_isLot_121 {r : Int32} {M1 : Mem} {k13 : Int32 → Int32 → Int64 → Int32 → Int32 → Int32 → Mem → Option (Int32 × Mem)} {k127 : Int32 → Int64 → Int32 → Int32 → Mem → Option (Int32 × Mem)} (X : CX E p s m args c meth cX11_isLot 12 (some .boolean) RX11) (hk13 : ∀ {x1 : Int32} {x2 : Int32} {y3 : Int64} {x5 : Int32} {x6 : Int32} {x7 : Int32} {M : Mem} {H : Heap} {locs : List Loc} {ls : Array Slot}, k13 x1 x2 y3 x5 x6 x7 M = some (r, M1) → Rl E (sh_ b) (nn b) s.heap M H locs → lv_has ls 12 [(0, .ref (eB E + 47)), (1, .int x1), (2, .int x2), (3, .long y3), (5, .int x5), (6, .int x6), (7, .int x7)] → W p l e (rm 21 0 0) s m args below meth c H locs 0 0 (MQ below (qq E (some (.int r)) (sh_ b) (nn b) M1) args s 0 0 (fr E)) (F0 m 13 ls [])) (hk127 : ∀ {x1 : Int32} {y3 : Int64} {x5 : Int32} {x6 : Int32} {M : Mem} {H : Heap} {locs : List Loc} {ls : Array Slot}, k127 x1 y3 x5 x6 M = some (r, M1) → Rl E (sh_ b) (nn b) s.heap M H locs → lv_has ls 12 [(0, .ref (eB E + 47)), (1, .int x1), (3, .long y3), (5, .int x5), (6, .int x6)] → W p l e (rm 21 0 0) s m args below meth c H locs 0 0 (MQ below (qq E (some (.int r)) (sh_ b) (nn b) M1) args s 0 0 (fr E)) (F0 m 127 ls [])) : ∀ {x1 : Int32} {x2 : Int32} {y3 : Int64} {x5 : Int32} {x6 : Int32} {x7 : Int32} {M : Mem} {H : Heap} {locs : List Loc} {ls : Array Slot}, fX11_isLot_121 k13 k127 x1 x2 y3 x5 x6 x7 M = some (r, M1) → Rl E (sh_ b) (nn b) s.heap M H locs → lv_has ls 12 [(0, .ref (eB E + 47)), (1, .int x1), (2, .int x2), (3, .long y3), (5, .int x5), (6, .int x6), (7, .int x7)] → W p l e (rm 21 0 0) s m args below meth c H locs 0 0 (MQ below (qq E (some (.int r)) (sh_ b) (nn b) M1) args s 0 0 (fr E)) (F0 m 121 ls []) := by
  obtain ⟨hx, hb, hr, hml, hown, hts, hK, hN, hO, hlk, hbs⟩ := id X
  intro x1 x2 y3 x5 x6 x7 M H locs ls hf hR hl
  unfold fX11_isLot_121 at hf
  obtain ⟨v121, e121⟩ : ∃ y : Int32, y = (x7 + (1 : Int32)) := ⟨_, rfl⟩
  have hf := nx_at e121 hf
  refine lv_iinc (v := v121) (lv' := [(7, .int v121), (0, .ref (eB E + 47)), (1, .int x1), (2, .int x2), (3, .long y3), (5, .int x5), (6, .int x6)]) hx hb dX11_isLot_121 hl (k := 6) rfl (by rw [e121]; rfl) (by decide) rfl (fun ls hl => ?_)
  refine lv_goto (tgt := 13) hx hb dX11_isLot_124 (by decide) ?_
  exact hk13 hf hR (lv_sub hl [1, 2, 3, 4, 5, 6, 0] rfl)
set_option maxHeartbeats 4000000 in
set_option maxRecDepth 100000 in
theorem wX11_isLot_106 {r : Int32} {M1 : Mem} {k13 : Int32 → Int32 → Int64 → Int32 → Int32 → Int32 → Mem → Option (Int32 × Mem)} {k127 : Int32 → Int64 → Int32 → Int32 → Mem → Option (Int32 × Mem)} (X : CX E p s m args c meth cX11_isLot 12 (some .boolean) RX11) (hk13 : ∀ {x1 : Int32} {x2 : Int32} {y3 : Int64} {x5 : Int32} {x6 : Int32} {x7 : Int32} {M : Mem} {H : Heap} {locs : List Loc} {ls : Array Slot}, k13 x1 x2 y3 x5 x6 x7 M = some (r, M1) → Rl E (sh_ b) (nn b) s.heap M H locs → lv_has ls 12 [(0, .ref (eB E + 47)), (1, .int x1), (2, .int x2), (3, .long y3), (5, .int x5), (6, .int x6), (7, .int x7)] → W p l e (rm 21 0 0) s m args below meth c H locs 0 0 (MQ below (qq E (some (.int r)) (sh_ b) (nn b) M1) args s 0 0 (fr E)) (F0 m 13 ls [])) (hk127 : ∀ {x1 : Int32} {y3 : Int64} {x5 : Int32} {x6 : Int32} {M : Mem} {H : Heap} {locs : List Loc} {ls : Array Slot}, k127 x1 y3 x5 x6 M = some (r, M1) → Rl E (sh_ b) (nn b) s.heap M H locs → lv_has ls 12 [(0, .ref (eB E + 47)), (1, .int x1), (3, .long y3), (5, .int x5), (6, .int x6)] → W p l e (rm 21 0 0) s m args below meth c H locs 0 0 (MQ below (qq E (some (.int r)) (sh_ b) (nn b) M1) args s 0 0 (fr E)) (F0 m 127 ls [])) : ∀ {x1 : Int32} {x2 : Int32} {y3 : Int64} {x6 : Int32} {x7 : Int32} {s0 : Int32} {s1 : Int32} {M : Mem} {H : Heap} {locs : List Loc} {ls : Array Slot}, fX11_isLot_106 k13 k127 x1 x2 y3 x6 x7 s0 s1 M = some (r, M1) → Rl E (sh_ b) (nn b) s.heap M H locs → lv_has ls 12 [(0, .ref (eB E + 47)), (1, .int x1), (2, .int x2), (3, .long y3), (6, .int x6), (7, .int x7)] → W p l e (rm 21 0 0) s m args below meth c H locs 0 0 (MQ below (qq E (some (.int r)) (sh_ b) (nn b) M1) args s 0 0 (fr E)) (F0 m 106 ls [.int s1, .int s0]) := by
  obtain ⟨hx, hb, hr, hml, hown, hts, hK, hN, hO, hlk, hbs⟩ := id X
  intro x1 x2 y3 x6 x7 s0 s1 M H locs ls hf hR hl
  unfold fX11_isLot_106 at hf
  refine lv_iadd hx hb dX11_isLot_106 ?_
  refine lv_topi (fun v107 e107 => ?_)
  have hf := nx_at e107 hf
  refine lv_istore (lv' := [(5, .int v107), (0, .ref (eB E + 47)), (1, .int x1), (2, .int x2), (3, .long y3), (6, .int x6), (7, .int x7)]) hx hb dX11_isLot_107 hl (by decide) rfl (fun ls hl => ?_)
  refine lv_lload_n hx hb dX11_isLot_109 rfl (lv_at hl 4 rfl) ?_
  refine lv_aload_n hx hb dX11_isLot_110 rfl (lv_at hl 1 rfl) ?_
  refine x_get hx hb hown hts hK hR kX11 (z_47 b) (j := 41) (by decide) fl_X11_102 (v := .ref (eB E + 97)) rfl dX11_isLot_111 ?_
  refine lv_iload hx hb dX11_isLot_114 (lv_at hl 6 rfl) ?_
  obtain ⟨g116, hf⟩ := br_g hf
  refine x_lald hx hb hK hR (z_97 b) g116 dX11_isLot_116 ?_
  obtain ⟨q117, c117, hf⟩ := br_b hf
  refine x_callS (As := [.long y3, .long (M.2 97 (ix x7))]) (rest := []) (st1 := [.long q117]) X hR (ctX11_gcd c117) ml_X11_294 st_X11_gcd in_X11 co_X11_gcd yo_X11_gcd (rm_ok (by decide) (by decide)) rfl hl.1 rfl rfl (Nat.le_of_ble_eq_true rfl) dX11_isLot_117 ⟨Nat.zero_le _, Nat.zero_le _⟩ (fun H locs hR => ?_)
  refine lv_lstore_n (lv' := [(3, .long q117), (5, .int v107), (0, .ref (eB E + 47)), (1, .int x1), (2, .int x2), (6, .int x6), (7, .int x7)]) hx hb dX11_isLot_120 rfl hl (by decide) rfl (fun ls hl => ?_)
  exact wX11_isLot_121 X (fun hf hR hl => hk13 hf hR hl) (fun hf hR hl => hk127 hf hR hl) hf hR (lv_sub hl [2, 3, 4, 0, 1, 5, 6] rfl)
set_option maxHeartbeats 4000000 in
set_option maxRecDepth 100000 in
theorem wX11_isLot_84 {r : Int32} {M1 : Mem} {k13 : Int32 → Int32 → Int64 → Int32 → Int32 → Int32 → Mem → Option (Int32 × Mem)} {k127 : Int32 → Int64 → Int32 → Int32 → Mem → Option (Int32 × Mem)} (X : CX E p s m args c meth cX11_isLot 12 (some .boolean) RX11) (hk13 : ∀ {x1 : Int32} {x2 : Int32} {y3 : Int64} {x5 : Int32} {x6 : Int32} {x7 : Int32} {M : Mem} {H : Heap} {locs : List Loc} {ls : Array Slot}, k13 x1 x2 y3 x5 x6 x7 M = some (r, M1) → Rl E (sh_ b) (nn b) s.heap M H locs → lv_has ls 12 [(0, .ref (eB E + 47)), (1, .int x1), (2, .int x2), (3, .long y3), (5, .int x5), (6, .int x6), (7, .int x7)] → W p l e (rm 21 0 0) s m args below meth c H locs 0 0 (MQ below (qq E (some (.int r)) (sh_ b) (nn b) M1) args s 0 0 (fr E)) (F0 m 13 ls [])) (hk127 : ∀ {x1 : Int32} {y3 : Int64} {x5 : Int32} {x6 : Int32} {M : Mem} {H : Heap} {locs : List Loc} {ls : Array Slot}, k127 x1 y3 x5 x6 M = some (r, M1) → Rl E (sh_ b) (nn b) s.heap M H locs → lv_has ls 12 [(0, .ref (eB E + 47)), (1, .int x1), (3, .long y3), (5, .int x5), (6, .int x6)] → W p l e (rm 21 0 0) s m args below meth c H locs 0 0 (MQ below (qq E (some (.int r)) (sh_ b) (nn b) M1) args s 0 0 (fr E)) (F0 m 127 ls [])) : ∀ {x1 : Int32} {x2 : Int32} {y3 : Int64} {x5 : Int32} {x7 : Int32} {s0 : Int32} {s1 : Int32} {M : Mem} {H : Heap} {locs : List Loc} {ls : Array Slot}, fX11_isLot_84 k13 k127 x1 x2 y3 x5 x7 s0 s1 M = some (r, M1) → Rl E (sh_ b) (nn b) s.heap M H locs → lv_has ls 12 [(0, .ref (eB E + 47)), (1, .int x1), (2, .int x2), (3, .long y3), (5, .int x5), (7, .int x7)] → W p l e (rm 21 0 0) s m args below meth c H locs 0 0 (MQ below (qq E (some (.int r)) (sh_ b) (nn b) M1) args s 0 0 (fr E)) (F0 m 84 ls [.int s1, .int s0]) := by
  obtain ⟨hx, hb, hr, hml, hown, hts, hK, hN, hO, hlk, hbs⟩ := id X
  intro x1 x2 y3 x5 x7 s0 s1 M H locs ls hf hR hl
  unfold fX11_isLot_84 at hf
  refine lv_iadd hx hb dX11_isLot_84 ?_
  refine lv_topi (fun v85 e85 => ?_)
  have hf := nx_at e85 hf
  refine lv_istore (lv' := [(6, .int v85), (0, .ref (eB E + 47)), (1, .int x1), (2, .int x2), (3, .long y3), (5, .int x5), (7, .int x7)]) hx hb dX11_isLot_85 hl (by decide) rfl (fun ls hl => ?_)
  refine lv_iload hx hb dX11_isLot_87 (lv_at hl 5 rfl) ?_
  refine lv_aload_n hx hb dX11_isLot_89 rfl (lv_at hl 1 rfl) ?_
  refine x_get hx hb hown hts hK hR kX11 (z_47 b) (j := 41) (by decide) fl_X11_102 (v := .ref (eB E + 97)) rfl dX11_isLot_90 ?_
  refine lv_iload hx hb dX11_isLot_93 (lv_at hl 6 rfl) ?_
  obtain ⟨g95, hf⟩ := br_g hf
  refine x_lald hx hb hK hR (z_97 b) g95 dX11_isLot_95 ?_
  refine lv_lconst (v := 0) hx hb dX11_isLot_96 (by decide) ?_
  refine W.lcmp hx hb dX11_isLot_97 ?_
  refine lv_if_ge (tgt := 105) hx hb dX11_isLot_98 (by decide) (fun q98 => ?_) (fun q98 => ?_)
  · have hf := (br_if hf).1 q98
    refine lv_iconst (v := 0) hx hb dX11_isLot_105 (by decide) ?_
    exact wX11_isLot_106 X (fun hf hR hl => hk13 hf hR hl) (fun hf hR hl => hk127 hf hR hl) hf hR (lv_sub hl [1, 2, 3, 4, 0, 6] rfl)
  · have hf := (br_if hf).2 q98
    refine lv_iconst (v := 1) hx hb dX11_isLot_101 (by decide) ?_
    refine lv_goto (tgt := 106) hx hb dX11_isLot_102 (by decide) ?_
    exact wX11_isLot_106 X (fun hf hR hl => hk13 hf hR hl) (fun hf hR hl => hk127 hf hR hl) hf hR (lv_sub hl [1, 2, 3, 4, 0, 6] rfl)
set_option maxHeartbeats 4000000 in
set_option maxRecDepth 100000 in
theorem wX11_isLot_13 {r : Int32} {M1 : Mem} {k127 : Int32 → Int64 → Int32 → Int32 → Mem → Option (Int32 × Mem)} (X : CX E p s m args c meth cX11_isLot 12 (some .boolean) RX11) (hk127 : ∀ {x1 : Int32} {y3 : Int64} {x5 : Int32} {x6 : Int32} {M : Mem} {H : Heap} {locs : List Loc} {ls : Array Slot}, k127 x1 y3 x5 x6 M = some (r, M1) → Rl E (sh_ b) (nn b) s.heap M H locs → lv_has ls 12 [(0, .ref (eB E + 47)), (1, .int x1), (3, .long y3), (5, .int x5), (6, .int x6)] → W p l e (rm 21 0 0) s m args below meth c H locs 0 0 (MQ below (qq E (some (.int r)) (sh_ b) (nn b) M1) args s 0 0 (fr E)) (F0 m 127 ls [])) : ∀ (n : Nat) {x1 : Int32} {x2 : Int32} {y3 : Int64} {x5 : Int32} {x6 : Int32} {x7 : Int32} {M : Mem} {H : Heap} {locs : List Loc} {ls : Array Slot}, fX11_isLot_13 k127 n x1 x2 y3 x5 x6 x7 M = some (r, M1) → Rl E (sh_ b) (nn b) s.heap M H locs → lv_has ls 12 [(0, .ref (eB E + 47)), (1, .int x1), (2, .int x2), (3, .long y3), (5, .int x5), (6, .int x6), (7, .int x7)] → W p l e (rm 21 0 0) s m args below meth c H locs 0 0 (MQ below (qq E (some (.int r)) (sh_ b) (nn b) M1) args s 0 0 (fr E)) (F0 m 13 ls []) := by
  obtain ⟨hx, hb, hr, hml, hown, hts, hK, hN, hO, hlk, hbs⟩ := id X
  intro n
  induction n with
  | zero =>
    intro x1 x2 y3 x5 x6 x7 M H locs ls hf hR hl
    exact absurd (show none = some _ from hf) (fun h => by cases h)
  | succ n ih =>
    intro x1 x2 y3 x5 x6 x7 M H locs ls hf hR hl
    rw [fX11_isLot_13] at hf
    refine lv_iload hx hb dX11_isLot_13 (lv_at hl 6 rfl) ?_
    refine lv_bipush (v := 8) hx hb dX11_isLot_15 (by decide) ?_
    refine lv_icmp_ge (tgt := 127) hx hb dX11_isLot_17 (by decide) (fun q17 => ?_) (fun q17 => ?_)
    · have hf := (br_if hf).1 q17
      exact hk127 hf hR (lv_sub hl [0, 1, 3, 4, 5] rfl)
    · have hf := (br_if hf).2 q17
      refine lv_aload_n hx hb dX11_isLot_20 rfl (lv_at hl 0 rfl) ?_
      refine x_get hx hb hown hts hK hR kX11 (z_47 b) (j := 41) (by decide) fl_X11_102 (v := .ref (eB E + 97)) rfl dX11_isLot_21 ?_
      refine lv_iload hx hb dX11_isLot_24 (lv_at hl 6 rfl) ?_
      refine lv_lconst (v := 0) hx hb dX11_isLot_26 (by decide) ?_
      obtain ⟨g27, hf⟩ := br_g hf
      refine x_last hx hb hK hR (z_97 b) g27 dX11_isLot_27 (fun H locs hR => ?_)
      obtain ⟨M27, e27⟩ : ∃ y : Mem, y = (sL M 97 (ix x7) (0 : Int64)) := ⟨_, rfl⟩
      have hf := nx_at e27 hf
      have hR : Rl E (sh_ b) (nn b) s.heap M27 H locs := by rw [e27]; exact hR
      refine lv_iload_n hx hb dX11_isLot_28 rfl (lv_at hl 1 rfl) ?_
      refine lv_iload hx hb dX11_isLot_29 (lv_at hl 6 rfl) ?_
      refine lv_ishr hx hb dX11_isLot_31 ?_
      refine lv_iconst (v := 1) hx hb dX11_isLot_32 (by decide) ?_
      refine lv_iand hx hb dX11_isLot_33 ?_
      refine lv_if_ne (tgt := 40) hx hb dX11_isLot_34 (by decide) (fun q34 => ?_) (fun q34 => ?_)
      · have hf := (br_if hf).2 q34
        refine lv_aload_n hx hb dX11_isLot_40 rfl (lv_at hl 0 rfl) ?_
        refine x_get hx hb hown hts hK hR kX11 (z_47 b) (j := 41) (by decide) fl_X11_102 (v := .ref (eB E + 97)) rfl dX11_isLot_41 ?_
        refine lv_iload hx hb dX11_isLot_44 (lv_at hl 6 rfl) ?_
        refine lv_iload_n hx hb dX11_isLot_46 rfl (lv_at hl 2 rfl) ?_
        refine lv_i2l (v := x2.toInt64) hx hb dX11_isLot_47 rfl ?_
        refine lv_aload_n hx hb dX11_isLot_48 rfl (lv_at hl 0 rfl) ?_
        refine lv_iload_n hx hb dX11_isLot_49 rfl (lv_at hl 1 rfl) ?_
        refine lv_iconst (v := 1) hx hb dX11_isLot_50 (by decide) ?_
        refine lv_iload hx hb dX11_isLot_51 (lv_at hl 6 rfl) ?_
        refine lv_ishl hx hb dX11_isLot_53 ?_
        refine lv_iconst (v := -1) hx hb dX11_isLot_54 (by decide) ?_
        refine lv_ixor hx hb dX11_isLot_55 ?_
        refine lv_iand hx hb dX11_isLot_56 ?_
        obtain ⟨q57, c57, hf⟩ := br_b hf
        refine x_callV (k := 47) (As := [.int (x1 &&& (((1 : Int32) <<< (x7 &&& 31)) ^^^ (-1 : Int32)))]) (rest := [.long x2.toInt64, .int x7, .ref (eB E + 97)]) (st1 := [.long q57, .long x2.toInt64, .int x7, .ref (eB E + 97)]) X hR (ctX11_coupled c57) ml_X11_383 im_X11_coupled se_X11_coupled in_X11 co_X11_coupled yo_X11_coupled rfl kX11 (z_47 b) (rm_ok (by decide) (by decide)) rfl hl.1 rfl rfl (Nat.le_of_ble_eq_true rfl) dX11_isLot_57 ⟨Nat.zero_le _, Nat.zero_le _⟩ (fun H locs hR => ?_)
        refine lv_lmul hx hb dX11_isLot_60 ?_
        obtain ⟨g61, hf⟩ := br_g hf
        refine x_last hx hb hK hR (z_97 b) g61 dX11_isLot_61 (fun H locs hR => ?_)
        obtain ⟨M61, e61⟩ : ∃ y : Mem, y = (sL M27 97 (ix x7) (x2.toInt64 * q57)) := ⟨_, rfl⟩
        have hf := nx_at e61 hf
        have hR : Rl E (sh_ b) (nn b) s.heap M61 H locs := by rw [e61]; exact hR
        refine lv_iload_n hx hb dX11_isLot_62 rfl (lv_at hl 2 rfl) ?_
        refine lv_ineg hx hb dX11_isLot_63 ?_
        refine lv_topi (fun v64 e64 => ?_)
        have hf := nx_at e64 hf
        refine lv_istore_n (lv' := [(2, .int v64), (0, .ref (eB E + 47)), (1, .int x1), (3, .long y3), (5, .int x5), (6, .int x6), (7, .int x7)]) hx hb dX11_isLot_64 rfl hl (by decide) rfl (fun ls hl => ?_)
        refine lv_iload hx hb dX11_isLot_65 (lv_at hl 5 rfl) ?_
        refine lv_aload_n hx hb dX11_isLot_67 rfl (lv_at hl 1 rfl) ?_
        refine x_get hx hb hown hts hK hR kX11 (z_47 b) (j := 41) (by decide) fl_X11_102 (v := .ref (eB E + 97)) rfl dX11_isLot_68 ?_
        refine lv_iload hx hb dX11_isLot_71 (lv_at hl 6 rfl) ?_
        obtain ⟨g73, hf⟩ := br_g hf
        refine x_lald hx hb hK hR (z_97 b) g73 dX11_isLot_73 ?_
        refine lv_lconst (v := 0) hx hb dX11_isLot_74 (by decide) ?_
        refine W.lcmp hx hb dX11_isLot_75 ?_
        refine lv_if_le (tgt := 83) hx hb dX11_isLot_76 (by decide) (fun q76 => ?_) (fun q76 => ?_)
        · have hf := (br_if hf).1 q76
          refine lv_iconst (v := 0) hx hb dX11_isLot_83 (by decide) ?_
          exact wX11_isLot_84 X (fun hf hR hl => ih hf hR hl) (fun hf hR hl => hk127 hf hR hl) hf hR (lv_sub hl [1, 2, 0, 3, 4, 6] rfl)
        · have hf := (br_if hf).2 q76
          refine lv_iconst (v := 1) hx hb dX11_isLot_79 (by decide) ?_
          refine lv_goto (tgt := 84) hx hb dX11_isLot_80 (by decide) ?_
          exact wX11_isLot_84 X (fun hf hR hl => ih hf hR hl) (fun hf hR hl => hk127 hf hR hl) hf hR (lv_sub hl [1, 2, 0, 3, 4, 6] rfl)
      · have hf := (br_if hf).1 q34
        refine lv_goto (tgt := 121) hx hb dX11_isLot_37 (by decide) ?_
        exact wX11_isLot_121 X (fun hf hR hl => ih hf hR hl) (fun hf hR hl => hk127 hf hR hl) hf hR hl
set_option maxHeartbeats 4000000 in
set_option maxRecDepth 100000 in
theorem wX11_isLot_188 {r : Int32} {M1 : Mem} {k152 : Int64 → Int32 → Int32 → Mem → Option (Int32 × Mem)} {k197 : Mem → Option (Int32 × Mem)} (X : CX E p s m args c meth cX11_isLot 12 (some .boolean) RX11) (hk152 : ∀ {y3 : Int64} {x5 : Int32} {x8 : Int32} {M : Mem} {H : Heap} {locs : List Loc} {ls : Array Slot}, k152 y3 x5 x8 M = some (r, M1) → Rl E (sh_ b) (nn b) s.heap M H locs → lv_has ls 12 [(0, .ref (eB E + 47)), (3, .long y3), (5, .int x5), (8, .int x8)] → W p l e (rm 21 0 0) s m args below meth c H locs 0 0 (MQ below (qq E (some (.int r)) (sh_ b) (nn b) M1) args s 0 0 (fr E)) (F0 m 152 ls [])) (hk197 : ∀ {M : Mem} {H : Heap} {locs : List Loc} {ls : Array Slot}, k197 M = some (r, M1) → Rl E (sh_ b) (nn b) s.heap M H locs → lv_has ls 12 [(0, .ref (eB E + 47))] → W p l e (rm 21 0 0) s m args below meth c H locs 0 0 (MQ below (qq E (some (.int r)) (sh_ b) (nn b) M1) args s 0 0 (fr E)) (F0 m 197 ls [])) : ∀ {y3 : Int64} {x5 : Int32} {x8 : Int32} {s1 : Int32} {t2 : Int64} {M : Mem} {H : Heap} {locs : List Loc} {ls : Array Slot}, fX11_isLot_188 k152 k197 y3 x5 x8 s1 t2 M = some (r, M1) → Rl E (sh_ b) (nn b) s.heap M H locs → lv_has ls 12 [(0, .ref (eB E + 47)), (3, .long y3), (5, .int x5), (8, .int x8)] → W p l e (rm 21 0 0) s m args below meth c H locs 0 0 (MQ below (qq E (some (.int r)) (sh_ b) (nn b) M1) args s 0 0 (fr E)) (F0 m 188 ls [.long t2, .int s1, .ref (eB E + 97)]) := by
  obtain ⟨hx, hb, hr, hml, hown, hts, hK, hN, hO, hlk, hbs⟩ := id X
  intro y3 x5 x8 s1 t2 M H locs ls hf hR hl
  unfold fX11_isLot_188 at hf
  refine lv_lload_n hx hb dX11_isLot_188 rfl (lv_at hl 1 rfl) ?_
  obtain ⟨g189, hf⟩ := br_g hf
  refine lv_ldiv hx hb dX11_isLot_189 g189 ?_
  obtain ⟨g190, hf⟩ := br_g hf
  refine x_last hx hb hK hR (z_97 b) g190 dX11_isLot_190 (fun H locs hR => ?_)
  obtain ⟨M190, e190⟩ : ∃ y : Mem, y = (sL M 97 (ix s1) (t2 / y3)) := ⟨_, rfl⟩
  have hf := nx_at e190 hf
  have hR : Rl E (sh_ b) (nn b) s.heap M190 H locs := by rw [e190]; exact hR
  obtain ⟨v191, e191⟩ : ∃ y : Int32, y = (x8 + (1 : Int32)) := ⟨_, rfl⟩
  have hf := nx_at e191 hf
  refine lv_iinc (v := v191) (lv' := [(8, .int v191), (0, .ref (eB E + 47)), (3, .long y3), (5, .int x5)]) hx hb dX11_isLot_191 hl (k := 3) rfl (by rw [e191]; rfl) (by decide) rfl (fun ls hl => ?_)
  refine lv_goto (tgt := 152) hx hb dX11_isLot_194 (by decide) ?_
  exact hk152 hf hR (lv_sub hl [1, 2, 3, 0] rfl)
set_option maxHeartbeats 4000000 in
set_option maxRecDepth 100000 in
theorem wX11_isLot_152 {r : Int32} {M1 : Mem} {k197 : Mem → Option (Int32 × Mem)} (X : CX E p s m args c meth cX11_isLot 12 (some .boolean) RX11) (hk197 : ∀ {M : Mem} {H : Heap} {locs : List Loc} {ls : Array Slot}, k197 M = some (r, M1) → Rl E (sh_ b) (nn b) s.heap M H locs → lv_has ls 12 [(0, .ref (eB E + 47))] → W p l e (rm 21 0 0) s m args below meth c H locs 0 0 (MQ below (qq E (some (.int r)) (sh_ b) (nn b) M1) args s 0 0 (fr E)) (F0 m 197 ls [])) : ∀ (n : Nat) {y3 : Int64} {x5 : Int32} {x8 : Int32} {M : Mem} {H : Heap} {locs : List Loc} {ls : Array Slot}, fX11_isLot_152 k197 n y3 x5 x8 M = some (r, M1) → Rl E (sh_ b) (nn b) s.heap M H locs → lv_has ls 12 [(0, .ref (eB E + 47)), (3, .long y3), (5, .int x5), (8, .int x8)] → W p l e (rm 21 0 0) s m args below meth c H locs 0 0 (MQ below (qq E (some (.int r)) (sh_ b) (nn b) M1) args s 0 0 (fr E)) (F0 m 152 ls []) := by
  obtain ⟨hx, hb, hr, hml, hown, hts, hK, hN, hO, hlk, hbs⟩ := id X
  intro n
  induction n with
  | zero =>
    intro y3 x5 x8 M H locs ls hf hR hl
    exact absurd (show none = some _ from hf) (fun h => by cases h)
  | succ n ih =>
    intro y3 x5 x8 M H locs ls hf hR hl
    rw [fX11_isLot_152] at hf
    refine lv_iload hx hb dX11_isLot_152 (lv_at hl 3 rfl) ?_
    refine lv_bipush (v := 8) hx hb dX11_isLot_154 (by decide) ?_
    refine lv_icmp_ge (tgt := 197) hx hb dX11_isLot_156 (by decide) (fun q156 => ?_) (fun q156 => ?_)
    · have hf := (br_if hf).1 q156
      exact hk197 hf hR (lv_sub hl [0] rfl)
    · have hf := (br_if hf).2 q156
      refine lv_aload_n hx hb dX11_isLot_159 rfl (lv_at hl 0 rfl) ?_
      refine x_get hx hb hown hts hK hR kX11 (z_47 b) (j := 41) (by decide) fl_X11_102 (v := .ref (eB E + 97)) rfl dX11_isLot_160 ?_
      refine lv_iload hx hb dX11_isLot_163 (lv_at hl 3 rfl) ?_
      refine lv_iload hx hb dX11_isLot_165 (lv_at hl 2 rfl) ?_
      refine lv_if_le (tgt := 181) hx hb dX11_isLot_167 (by decide) (fun q167 => ?_) (fun q167 => ?_)
      · have hf := (br_if hf).1 q167
        refine lv_aload_n hx hb dX11_isLot_181 rfl (lv_at hl 0 rfl) ?_
        refine x_get hx hb hown hts hK hR kX11 (z_47 b) (j := 41) (by decide) fl_X11_102 (v := .ref (eB E + 97)) rfl dX11_isLot_182 ?_
        refine lv_iload hx hb dX11_isLot_185 (lv_at hl 3 rfl) ?_
        obtain ⟨g187, hf⟩ := br_g hf
        refine x_lald hx hb hK hR (z_97 b) g187 dX11_isLot_187 ?_
        exact wX11_isLot_188 X (fun hf hR hl => ih hf hR hl) (fun hf hR hl => hk197 hf hR hl) hf hR hl
      · have hf := (br_if hf).2 q167
        refine lv_aload_n hx hb dX11_isLot_170 rfl (lv_at hl 0 rfl) ?_
        refine x_get hx hb hown hts hK hR kX11 (z_47 b) (j := 41) (by decide) fl_X11_102 (v := .ref (eB E + 97)) rfl dX11_isLot_171 ?_
        refine lv_iload hx hb dX11_isLot_174 (lv_at hl 3 rfl) ?_
        obtain ⟨g176, hf⟩ := br_g hf
        refine x_lald hx hb hK hR (z_97 b) g176 dX11_isLot_176 ?_
        refine lv_lneg hx hb dX11_isLot_177 ?_
        refine lv_goto (tgt := 188) hx hb dX11_isLot_178 (by decide) ?_
        exact wX11_isLot_188 X (fun hf hR hl => ih hf hR hl) (fun hf hR hl => hk197 hf hR hl) hf hR hl
set_option maxHeartbeats 4000000 in
set_option maxRecDepth 100000 in
theorem wX11_isLot_215 {r : Int32} {M1 : Mem} {k253 : Int32 → Int64 → Mem → Option (Int32 × Mem)} (X : CX E p s m args c meth cX11_isLot 12 (some .boolean) RX11) (hk253 : ∀ {x8 : Int32} {y9 : Int64} {M : Mem} {H : Heap} {locs : List Loc} {ls : Array Slot}, k253 x8 y9 M = some (r, M1) → Rl E (sh_ b) (nn b) s.heap M H locs → lv_has ls 12 [(0, .ref (eB E + 47)), (8, .int x8), (9, .long y9)] → W p l e (rm 21 0 0) s m args below meth c H locs 0 0 (MQ below (qq E (some (.int r)) (sh_ b) (nn b) M1) args s 0 0 (fr E)) (F0 m 253 ls [])) : ∀ (n : Nat) {x8 : Int32} {y9 : Int64} {x11 : Int32} {M : Mem} {H : Heap} {locs : List Loc} {ls : Array Slot}, fX11_isLot_215 k253 n x8 y9 x11 M = some (r, M1) → Rl E (sh_ b) (nn b) s.heap M H locs → lv_has ls 12 [(0, .ref (eB E + 47)), (8, .int x8), (9, .long y9), (11, .int x11)] → W p l e (rm 21 0 0) s m args below meth c H locs 0 0 (MQ below (qq E (some (.int r)) (sh_ b) (nn b) M1) args s 0 0 (fr E)) (F0 m 215 ls []) := by
  obtain ⟨hx, hb, hr, hml, hown, hts, hK, hN, hO, hlk, hbs⟩ := id X
  intro n
  induction n with
  | zero =>
    intro x8 y9 x11 M H locs ls hf hR hl
    exact absurd (show none = some _ from hf) (fun h => by cases h)
  | succ n ih =>
    intro x8 y9 x11 M H locs ls hf hR hl
    rw [fX11_isLot_215] at hf
    refine lv_iload hx hb dX11_isLot_215 (lv_at hl 3 rfl) ?_
    refine lv_aload_n hx hb dX11_isLot_217 rfl (lv_at hl 0 rfl) ?_
    obtain ⟨q218, c218, hf⟩ := br_b hf
    refine x_callV (k := 47) (As := []) (rest := [.int x11]) (st1 := [.int q218, .int x11]) X hR (ctX11_chosen c218) ml_X11_372 im_X11_chosen se_X11_chosen in_X11 co_X11_chosen yo_X11_chosen rfl kX11 (z_47 b) (rm_ok (by decide) (by decide)) rfl hl.1 rfl rfl (Nat.le_of_ble_eq_true rfl) dX11_isLot_218 ⟨Nat.zero_le _, Nat.zero_le _⟩ (fun H locs hR => ?_)
    refine lv_icmp_ge (tgt := 253) hx hb dX11_isLot_221 (by decide) (fun q221 => ?_) (fun q221 => ?_)
    · have hf := (br_if hf).1 q221
      exact hk253 hf hR (lv_sub hl [0, 1, 2] rfl)
    · have hf := (br_if hf).2 q221
      refine lv_lload hx hb dX11_isLot_224 (lv_at hl 2 rfl) ?_
      refine lv_aload_n hx hb dX11_isLot_226 rfl (lv_at hl 0 rfl) ?_
      refine x_get hx hb hown hts hK hR kX11 (z_47 b) (j := 40) (by decide) fl_X11_99 (v := .ref (eB E + 88)) rfl dX11_isLot_227 ?_
      refine lv_iload hx hb dX11_isLot_230 (lv_at hl 1 rfl) ?_
      obtain ⟨g232, hf⟩ := br_g hf
      refine x_aald6 hx hb hK hR (z_88 b) g232 (r := (89 + ix x8)) (zq_88 g232) dX11_isLot_232 ?_
      refine lv_iload hx hb dX11_isLot_233 (lv_at hl 3 rfl) ?_
      obtain ⟨g235, hf⟩ := br_g hf
      refine x_lald hx hb hK hR (zr_88 b g232) g235 dX11_isLot_235 ?_
      refine lv_aload_n hx hb dX11_isLot_236 rfl (lv_at hl 0 rfl) ?_
      refine x_get hx hb hown hts hK hR kX11 (z_47 b) (j := 41) (by decide) fl_X11_102 (v := .ref (eB E + 97)) rfl dX11_isLot_237 ?_
      refine lv_iload hx hb dX11_isLot_240 (lv_at hl 3 rfl) ?_
      obtain ⟨g242, hf⟩ := br_g hf
      refine x_lald hx hb hK hR (z_97 b) g242 dX11_isLot_242 ?_
      refine lv_lmul hx hb dX11_isLot_243 ?_
      refine lv_ladd hx hb dX11_isLot_244 ?_
      refine lv_topl (fun v245 e245 => ?_)
      have hf := nx_at e245 hf
      refine lv_lstore (lv' := [(9, .long v245), (0, .ref (eB E + 47)), (8, .int x8), (11, .int x11)]) hx hb dX11_isLot_245 hl (by decide) rfl (fun ls hl => ?_)
      obtain ⟨v247, e247⟩ : ∃ y : Int32, y = (x11 + (1 : Int32)) := ⟨_, rfl⟩
      have hf := nx_at e247 hf
      refine lv_iinc (v := v247) (lv' := [(11, .int v247), (9, .long v245), (0, .ref (eB E + 47)), (8, .int x8)]) hx hb dX11_isLot_247 hl (k := 3) rfl (by rw [e247]; rfl) (by decide) rfl (fun ls hl => ?_)
      refine lv_goto (tgt := 215) hx hb dX11_isLot_250 (by decide) ?_
      exact ih hf hR (lv_sub hl [2, 3, 1, 0] rfl)
set_option maxHeartbeats 4000000 in
set_option maxRecDepth 100000 in
theorem wX11_isLot_253 {r : Int32} {M1 : Mem} {k200 : Int32 → Mem → Option (Int32 × Mem)} {k260 : Mem → Option (Int32 × Mem)} {k268 : Mem → Option (Int32 × Mem)} (X : CX E p s m args c meth cX11_isLot 12 (some .boolean) RX11) (hk200 : ∀ {x8 : Int32} {M : Mem} {H : Heap} {locs : List Loc} {ls : Array Slot}, k200 x8 M = some (r, M1) → Rl E (sh_ b) (nn b) s.heap M H locs → lv_has ls 12 [(0, .ref (eB E + 47)), (8, .int x8)] → W p l e (rm 21 0 0) s m args below meth c H locs 0 0 (MQ below (qq E (some (.int r)) (sh_ b) (nn b) M1) args s 0 0 (fr E)) (F0 m 200 ls [])) (hk260 : ∀ {M : Mem} {H : Heap} {locs : List Loc} {ls : Array Slot}, k260 M = some (r, M1) → Rl E (sh_ b) (nn b) s.heap M H locs → lv_has ls 12 [] → W p l e (rm 21 0 0) s m args below meth c H locs 0 0 (MQ below (qq E (some (.int r)) (sh_ b) (nn b) M1) args s 0 0 (fr E)) (F0 m 260 ls [])) (hk268 : ∀ {M : Mem} {H : Heap} {locs : List Loc} {ls : Array Slot}, k268 M = some (r, M1) → Rl E (sh_ b) (nn b) s.heap M H locs → lv_has ls 12 [] → W p l e (rm 21 0 0) s m args below meth c H locs 0 0 (MQ below (qq E (some (.int r)) (sh_ b) (nn b) M1) args s 0 0 (fr E)) (F0 m 268 ls [])) : ∀ {x8 : Int32} {y9 : Int64} {M : Mem} {H : Heap} {locs : List Loc} {ls : Array Slot}, fX11_isLot_253 k200 k260 k268 x8 y9 M = some (r, M1) → Rl E (sh_ b) (nn b) s.heap M H locs → lv_has ls 12 [(0, .ref (eB E + 47)), (8, .int x8), (9, .long y9)] → W p l e (rm 21 0 0) s m args below meth c H locs 0 0 (MQ below (qq E (some (.int r)) (sh_ b) (nn b) M1) args s 0 0 (fr E)) (F0 m 253 ls []) := by
  obtain ⟨hx, hb, hr, hml, hown, hts, hK, hN, hO, hlk, hbs⟩ := id X
  intro x8 y9 M H locs ls hf hR hl
  unfold fX11_isLot_253 at hf
  refine lv_lload hx hb dX11_isLot_253 (lv_at hl 2 rfl) ?_
  refine lv_lconst (v := 0) hx hb dX11_isLot_255 (by decide) ?_
  refine W.lcmp hx hb dX11_isLot_256 ?_
  refine lv_if_le (tgt := 262) hx hb dX11_isLot_257 (by decide) (fun q257 => ?_) (fun q257 => ?_)
  · have hf := (br_if hf).1 q257
    obtain ⟨v262, e262⟩ : ∃ y : Int32, y = (x8 + (1 : Int32)) := ⟨_, rfl⟩
    have hf := nx_at e262 hf
    refine lv_iinc (v := v262) (lv' := [(8, .int v262), (0, .ref (eB E + 47)), (9, .long y9)]) hx hb dX11_isLot_262 hl (k := 1) rfl (by rw [e262]; rfl) (by decide) rfl (fun ls hl => ?_)
    refine lv_goto (tgt := 200) hx hb dX11_isLot_265 (by decide) ?_
    exact hk200 hf hR (lv_sub hl [1, 0] rfl)
  · have hf := (br_if hf).2 q257
    exact hk260 hf hR (lv_sub hl [] rfl)
set_option maxHeartbeats 4000000 in
set_option maxRecDepth 100000 in
theorem wX11_isLot_200 {r : Int32} {M1 : Mem} {k260 : Mem → Option (Int32 × Mem)} {k268 : Mem → Option (Int32 × Mem)} (X : CX E p s m args c meth cX11_isLot 12 (some .boolean) RX11) (hk260 : ∀ {M : Mem} {H : Heap} {locs : List Loc} {ls : Array Slot}, k260 M = some (r, M1) → Rl E (sh_ b) (nn b) s.heap M H locs → lv_has ls 12 [] → W p l e (rm 21 0 0) s m args below meth c H locs 0 0 (MQ below (qq E (some (.int r)) (sh_ b) (nn b) M1) args s 0 0 (fr E)) (F0 m 260 ls [])) (hk268 : ∀ {M : Mem} {H : Heap} {locs : List Loc} {ls : Array Slot}, k268 M = some (r, M1) → Rl E (sh_ b) (nn b) s.heap M H locs → lv_has ls 12 [] → W p l e (rm 21 0 0) s m args below meth c H locs 0 0 (MQ below (qq E (some (.int r)) (sh_ b) (nn b) M1) args s 0 0 (fr E)) (F0 m 268 ls [])) : ∀ (n : Nat) {x8 : Int32} {M : Mem} {H : Heap} {locs : List Loc} {ls : Array Slot}, fX11_isLot_200 k260 k268 n x8 M = some (r, M1) → Rl E (sh_ b) (nn b) s.heap M H locs → lv_has ls 12 [(0, .ref (eB E + 47)), (8, .int x8)] → W p l e (rm 21 0 0) s m args below meth c H locs 0 0 (MQ below (qq E (some (.int r)) (sh_ b) (nn b) M1) args s 0 0 (fr E)) (F0 m 200 ls []) := by
  obtain ⟨hx, hb, hr, hml, hown, hts, hK, hN, hO, hlk, hbs⟩ := id X
  intro n
  induction n with
  | zero =>
    intro x8 M H locs ls hf hR hl
    exact absurd (show none = some _ from hf) (fun h => by cases h)
  | succ n ih =>
    intro x8 M H locs ls hf hR hl
    rw [fX11_isLot_200] at hf
    refine lv_iload hx hb dX11_isLot_200 (lv_at hl 1 rfl) ?_
    refine lv_aload_n hx hb dX11_isLot_202 rfl (lv_at hl 0 rfl) ?_
    obtain ⟨q203, c203, hf⟩ := br_b hf
    refine x_callV (k := 47) (As := []) (rest := [.int x8]) (st1 := [.int q203, .int x8]) X hR (ctX11_chosen c203) ml_X11_372 im_X11_chosen se_X11_chosen in_X11 co_X11_chosen yo_X11_chosen rfl kX11 (z_47 b) (rm_ok (by decide) (by decide)) rfl hl.1 rfl rfl (Nat.le_of_ble_eq_true rfl) dX11_isLot_203 ⟨Nat.zero_le _, Nat.zero_le _⟩ (fun H locs hR => ?_)
    refine lv_icmp_ge (tgt := 268) hx hb dX11_isLot_206 (by decide) (fun q206 => ?_) (fun q206 => ?_)
    · have hf := (br_if hf).1 q206
      exact hk268 hf hR (lv_sub hl [] rfl)
    · have hf := (br_if hf).2 q206
      refine lv_lconst (v := 0) hx hb dX11_isLot_209 (by decide) ?_
      refine lv_lstore (lv' := [(9, .long (0 : Int64)), (0, .ref (eB E + 47)), (8, .int x8)]) hx hb dX11_isLot_210 hl (by decide) rfl (fun ls hl => ?_)
      refine lv_iconst (v := 0) hx hb dX11_isLot_212 (by decide) ?_
      refine lv_istore (lv' := [(11, .int (0 : Int32)), (9, .long (0 : Int64)), (0, .ref (eB E + 47)), (8, .int x8)]) hx hb dX11_isLot_213 hl (by decide) rfl (fun ls hl => ?_)
      exact wX11_isLot_215 X (fun hf hR hl => wX11_isLot_253 X (fun hf hR hl => ih hf hR hl) (fun hf hR hl => hk260 hf hR hl) (fun hf hR hl => hk268 hf hR hl) hf hR hl) FU hf hR (lv_sub hl [2, 3, 1, 0] rfl)
set_option maxHeartbeats 4000000 in
set_option maxRecDepth 100000 in
theorem wX11_isLot_260 {r : Int32} {M1 : Mem} (X : CX E p s m args c meth cX11_isLot 12 (some .boolean) RX11) : ∀ {M : Mem} {H : Heap} {locs : List Loc} {ls : Array Slot}, fX11_isLot_260 M = some (r, M1) → Rl E (sh_ b) (nn b) s.heap M H locs → lv_has ls 12 [] → W p l e (rm 21 0 0) s m args below meth c H locs 0 0 (MQ below (qq E (some (.int r)) (sh_ b) (nn b) M1) args s 0 0 (fr E)) (F0 m 260 ls []) := by
  obtain ⟨hx, hb, hr, hml, hown, hts, hK, hN, hO, hlk, hbs⟩ := id X
  intro M H locs ls hf hR hl
  unfold fX11_isLot_260 at hf
  refine lv_iconst (v := 0) hx hb dX11_isLot_260 (by decide) ?_
  cases hf
  exact x_zret hx hb hr hlk hR (by decide) dX11_isLot_261
set_option maxHeartbeats 4000000 in
set_option maxRecDepth 100000 in
theorem wX11_isLot_268 {r : Int32} {M1 : Mem} (X : CX E p s m args c meth cX11_isLot 12 (some .boolean) RX11) : ∀ {M : Mem} {H : Heap} {locs : List Loc} {ls : Array Slot}, fX11_isLot_268 M = some (r, M1) → Rl E (sh_ b) (nn b) s.heap M H locs → lv_has ls 12 [] → W p l e (rm 21 0 0) s m args below meth c H locs 0 0 (MQ below (qq E (some (.int r)) (sh_ b) (nn b) M1) args s 0 0 (fr E)) (F0 m 268 ls []) := by
  obtain ⟨hx, hb, hr, hml, hown, hts, hK, hN, hO, hlk, hbs⟩ := id X
  intro M H locs ls hf hR hl
  unfold fX11_isLot_268 at hf
  refine lv_iconst (v := 1) hx hb dX11_isLot_268 (by decide) ?_
  cases hf
  exact x_zret hx hb hr hlk hR (by decide) dX11_isLot_269
set_option maxHeartbeats 4000000 in
set_option maxRecDepth 100000 in
theorem wX11_isLot_197 {r : Int32} {M1 : Mem} (X : CX E p s m args c meth cX11_isLot 12 (some .boolean) RX11) : ∀ {M : Mem} {H : Heap} {locs : List Loc} {ls : Array Slot}, fX11_isLot_197 M = some (r, M1) → Rl E (sh_ b) (nn b) s.heap M H locs → lv_has ls 12 [(0, .ref (eB E + 47))] → W p l e (rm 21 0 0) s m args below meth c H locs 0 0 (MQ below (qq E (some (.int r)) (sh_ b) (nn b) M1) args s 0 0 (fr E)) (F0 m 197 ls []) := by
  obtain ⟨hx, hb, hr, hml, hown, hts, hK, hN, hO, hlk, hbs⟩ := id X
  intro M H locs ls hf hR hl
  unfold fX11_isLot_197 at hf
  refine lv_iconst (v := 0) hx hb dX11_isLot_197 (by decide) ?_
  refine lv_istore (lv' := [(8, .int (0 : Int32)), (0, .ref (eB E + 47))]) hx hb dX11_isLot_198 hl (by decide) rfl (fun ls hl => ?_)
  exact wX11_isLot_200 X (fun hf hR hl => wX11_isLot_260 X hf hR hl) (fun hf hR hl => wX11_isLot_268 X hf hR hl) FU hf hR (lv_sub hl [1, 0] rfl)
set_option maxHeartbeats 4000000 in
set_option maxRecDepth 100000 in
theorem wX11_isLot_149 {r : Int32} {M1 : Mem} (X : CX E p s m args c meth cX11_isLot 12 (some .boolean) RX11) : ∀ {y3 : Int64} {x5 : Int32} {M : Mem} {H : Heap} {locs : List Loc} {ls : Array Slot}, fX11_isLot_149 y3 x5 M = some (r, M1) → Rl E (sh_ b) (nn b) s.heap M H locs → lv_has ls 12 [(0, .ref (eB E + 47)), (3, .long y3), (5, .int x5)] → W p l e (rm 21 0 0) s m args below meth c H locs 0 0 (MQ below (qq E (some (.int r)) (sh_ b) (nn b) M1) args s 0 0 (fr E)) (F0 m 149 ls []) := by
  obtain ⟨hx, hb, hr, hml, hown, hts, hK, hN, hO, hlk, hbs⟩ := id X
  intro y3 x5 M H locs ls hf hR hl
  unfold fX11_isLot_149 at hf
  refine lv_iconst (v := 0) hx hb dX11_isLot_149 (by decide) ?_
  refine lv_istore (lv' := [(8, .int (0 : Int32)), (0, .ref (eB E + 47)), (3, .long y3), (5, .int x5)]) hx hb dX11_isLot_150 hl (by decide) rfl (fun ls hl => ?_)
  exact wX11_isLot_152 X (fun hf hR hl => wX11_isLot_197 X hf hR hl) FU hf hR (lv_sub hl [1, 2, 3, 0] rfl)
set_option maxHeartbeats 4000000 in
set_option maxRecDepth 100000 in
theorem wX11_isLot_127 {r : Int32} {M1 : Mem} (X : CX E p s m args c meth cX11_isLot 12 (some .boolean) RX11) : ∀ {x1 : Int32} {y3 : Int64} {x5 : Int32} {x6 : Int32} {M : Mem} {H : Heap} {locs : List Loc} {ls : Array Slot}, fX11_isLot_127 x1 y3 x5 x6 M = some (r, M1) → Rl E (sh_ b) (nn b) s.heap M H locs → lv_has ls 12 [(0, .ref (eB E + 47)), (1, .int x1), (3, .long y3), (5, .int x5), (6, .int x6)] → W p l e (rm 21 0 0) s m args below meth c H locs 0 0 (MQ below (qq E (some (.int r)) (sh_ b) (nn b) M1) args s 0 0 (fr E)) (F0 m 127 ls []) := by
  obtain ⟨hx, hb, hr, hml, hown, hts, hK, hN, hO, hlk, hbs⟩ := id X
  intro x1 y3 x5 x6 M H locs ls hf hR hl
  unfold fX11_isLot_127 at hf
  refine lv_iload_n hx hb dX11_isLot_127 rfl (lv_at hl 1 rfl) ?_
  obtain ⟨q128, c128, hf⟩ := br_b hf
  refine x_callS (As := [.int x1]) (rest := []) (st1 := [.int q128]) X hR (ctJ6_bitCount_0f7a4 c128) ml_X11_387 st_J6_bitCount_0f7a4 in_J6 co_J6_bitCount_0f7a4 yo_J6_bitCount_0f7a4 (rm_ok (by decide) (by decide)) rfl hl.1 rfl rfl (Nat.le_of_ble_eq_true rfl) dX11_isLot_128 ⟨Nat.zero_le _, Nat.zero_le _⟩ (fun H locs hR => ?_)
  refine lv_istore (lv' := [(7, .int q128), (0, .ref (eB E + 47)), (1, .int x1), (3, .long y3), (5, .int x5), (6, .int x6)]) hx hb dX11_isLot_131 hl (by decide) rfl (fun ls hl => ?_)
  refine lv_iload hx hb dX11_isLot_133 (lv_at hl 5 rfl) ?_
  refine lv_iload hx hb dX11_isLot_135 (lv_at hl 0 rfl) ?_
  refine lv_icmp_eq (tgt := 149) hx hb dX11_isLot_137 (by decide) (fun q137 => ?_) (fun q137 => ?_)
  · have hf := (br_if hf).1 q137
    exact wX11_isLot_149 X hf hR (lv_sub hl [1, 3, 4] rfl)
  · have hf := (br_if hf).2 q137
    refine lv_iload hx hb dX11_isLot_140 (lv_at hl 4 rfl) ?_
    refine lv_iload hx hb dX11_isLot_142 (lv_at hl 0 rfl) ?_
    refine lv_icmp_eq (tgt := 149) hx hb dX11_isLot_144 (by decide) (fun q144 => ?_) (fun q144 => ?_)
    · have hf := (br_if hf).1 q144
      exact wX11_isLot_149 X hf hR (lv_sub hl [1, 3, 4] rfl)
    · have hf := (br_if hf).2 q144
      refine lv_iconst (v := 0) hx hb dX11_isLot_147 (by decide) ?_
      cases hf
      exact x_zret hx hb hr hlk hR (by decide) dX11_isLot_148
set_option maxHeartbeats 4000000 in
set_option maxRecDepth 100000 in
theorem wX11_isLot_0 {r : Int32} {M1 : Mem} (X : CX E p s m args c meth cX11_isLot 12 (some .boolean) RX11) : ∀ {x1 : Int32} {M : Mem} {H : Heap} {locs : List Loc} {ls : Array Slot}, fX11_isLot x1 M = some (r, M1) → Rl E (sh_ b) (nn b) s.heap M H locs → lv_has ls 12 [(0, .ref (eB E + 47)), (1, .int x1)] → W p l e (rm 21 0 0) s m args below meth c H locs 0 0 (MQ below (qq E (some (.int r)) (sh_ b) (nn b) M1) args s 0 0 (fr E)) (F0 m 0 ls []) := by
  obtain ⟨hx, hb, hr, hml, hown, hts, hK, hN, hO, hlk, hbs⟩ := id X
  intro x1 M H locs ls hf hR hl
  unfold fX11_isLot at hf
  refine lv_iconst (v := 1) hx hb dX11_isLot_0 (by decide) ?_
  refine lv_istore_n (lv' := [(2, .int (1 : Int32)), (0, .ref (eB E + 47)), (1, .int x1)]) hx hb dX11_isLot_1 rfl hl (by decide) rfl (fun ls hl => ?_)
  refine lv_lconst (v := 0) hx hb dX11_isLot_2 (by decide) ?_
  refine lv_lstore_n (lv' := [(3, .long (0 : Int64)), (2, .int (1 : Int32)), (0, .ref (eB E + 47)), (1, .int x1)]) hx hb dX11_isLot_3 rfl hl (by decide) rfl (fun ls hl => ?_)
  refine lv_iconst (v := 0) hx hb dX11_isLot_4 (by decide) ?_
  refine lv_istore (lv' := [(5, .int (0 : Int32)), (3, .long (0 : Int64)), (2, .int (1 : Int32)), (0, .ref (eB E + 47)), (1, .int x1)]) hx hb dX11_isLot_5 hl (by decide) rfl (fun ls hl => ?_)
  refine lv_iconst (v := 0) hx hb dX11_isLot_7 (by decide) ?_
  refine lv_istore (lv' := [(6, .int (0 : Int32)), (5, .int (0 : Int32)), (3, .long (0 : Int64)), (2, .int (1 : Int32)), (0, .ref (eB E + 47)), (1, .int x1)]) hx hb dX11_isLot_8 hl (by decide) rfl (fun ls hl => ?_)
  refine lv_iconst (v := 0) hx hb dX11_isLot_10 (by decide) ?_
  refine lv_istore (lv' := [(7, .int (0 : Int32)), (6, .int (0 : Int32)), (5, .int (0 : Int32)), (3, .long (0 : Int64)), (2, .int (1 : Int32)), (0, .ref (eB E + 47)), (1, .int x1)]) hx hb dX11_isLot_11 hl (by decide) rfl (fun ls hl => ?_)
  exact wX11_isLot_13 X (fun hf hR hl => wX11_isLot_127 X hf hR hl) FU hf hR (lv_sub hl [5, 6, 4, 3, 2, 1, 0] rfl)
theorem ctX11_isLot {l : Launch} {E : Ge} {b : Bool} {M : Mem} {x1 : Int32} {r : Int32} {M1 : Mem} (h : fX11_isLot x1 M = some (r, M1)) : CT l E yX11_isLot cX11_isLot 12 (some .boolean) 21 0 0 [.ref (eB E + 47), .int x1] (some (.int r)) (sh_ b) (nn b) M (sh_ b) (nn b) M1 := by
  refine met_of (by decide) (Nat.le_of_ble_eq_true rfl) ?_
  intro p e s m args below meth c X _ hR ls hl
  exact wX11_isLot_0 X h hR hl
def fX11_findsLots_12 (k41 : Int32 → Mem → Option (Int32 × Mem)) : Nat → Int32 → Int32 → Mem → Option (Int32 × Mem)
  | 0, _, _, _ => none
  | n + 1, x1, x2, M => (fX11_chosen M).bind (fun q14 => (if q14 ≤ x2 then k41 x1 M else (if inb x1 8 = true then (fX11_gain M x1 x2).bind (fun q30 => (if inb x2 8 = true then nx (sL M (89 + ix x1) (ix x2) q30.toInt64) (fun M34 => nx (x2 + (1 : Int32)) (fun v35 => fX11_findsLots_12 k41 n x1 v35 M34)) else none)) else none)))
def fX11_findsLots_41 (k2 : Int32 → Mem → Option (Int32 × Mem)) (k47 : Mem → Option (Int32 × Mem)) (x1 : Int32) (M : Mem) : Option (Int32 × Mem) := nx (x1 + (1 : Int32)) (fun v41 => k2 v41 M)
def fX11_findsLots_2 (k47 : Mem → Option (Int32 × Mem)) : Nat → Int32 → Mem → Option (Int32 × Mem)
  | 0, _, _ => none
  | n + 1, x1, M => (fX11_chosen M).bind (fun q4 => (if q4 ≤ x1 then k47 M else fX11_findsLots_12 (fX11_findsLots_41 (fX11_findsLots_2 k47 n) k47) FU x1 (0 : Int32) M))
def fX11_findsLots_87 (k59 : Int32 → Int32 → Mem → Option (Int32 × Mem)) (k85 : Mem → Option (Int32 × Mem)) (k93 : Int32 → Mem → Option (Int32 × Mem)) (x1 : Int32) (x2 : Int32) (M : Mem) : Option (Int32 × Mem) := nx (x2 + (1 : Int32)) (fun v87 => k59 x1 v87 M)
def fX11_findsLots_59 (k85 : Mem → Option (Int32 × Mem)) (k93 : Int32 → Mem → Option (Int32 × Mem)) : Nat → Int32 → Int32 → Mem → Option (Int32 × Mem)
  | 0, _, _, _ => none
  | n + 1, x1, x2, M => (fX11_chosen M).bind (fun q62 => (if ((1 : Int32) <<< (q62 &&& 31)) ≤ x2 then k93 x1 M else (fJ6_bitCount_0f7a4 M x2).bind (fun q70 => (if q70 = x1 then (fX11_isLot x2 M).bind (fun q79 => (if q79.1 = 0 then fX11_findsLots_87 (fX11_findsLots_59 k85 k93 n) k85 k93 x1 x2 (q79.2) else k85 (q79.2))) else fX11_findsLots_87 (fX11_findsLots_59 k85 k93 n) k85 k93 x1 x2 M))))
def fX11_findsLots_93 (k49 : Int32 → Mem → Option (Int32 × Mem)) (k85 : Mem → Option (Int32 × Mem)) (k99 : Mem → Option (Int32 × Mem)) (x1 : Int32) (M : Mem) : Option (Int32 × Mem) := nx (x1 + (2 : Int32)) (fun v93 => k49 v93 M)
def fX11_findsLots_49 (k85 : Mem → Option (Int32 × Mem)) (k99 : Mem → Option (Int32 × Mem)) : Nat → Int32 → Mem → Option (Int32 × Mem)
  | 0, _, _ => none
  | n + 1, x1, M => (fX11_chosen M).bind (fun q51 => (if q51 < x1 then k99 M else fX11_findsLots_59 k85 (fX11_findsLots_93 (fX11_findsLots_49 k85 k99 n) k85 k99) FU x1 (1 : Int32) M))
def fX11_findsLots_85 (M : Mem) : Option (Int32 × Mem) := some ((1 : Int32), M)
def fX11_findsLots_99 (M : Mem) : Option (Int32 × Mem) := some ((0 : Int32), M)
def fX11_findsLots_47 (M : Mem) : Option (Int32 × Mem) := fX11_findsLots_49 fX11_findsLots_85 fX11_findsLots_99 FU (1 : Int32) M
def fX11_findsLots (M : Mem) : Option (Int32 × Mem) := fX11_findsLots_2 fX11_findsLots_47 FU (0 : Int32) M
set_option maxHeartbeats 4000000 in
set_option maxRecDepth 100000 in
theorem wX11_findsLots_12 {r : Int32} {M1 : Mem} {k41 : Int32 → Mem → Option (Int32 × Mem)} (X : CX E p s m args c meth cX11_findsLots 3 (some .boolean) RX11) (hk41 : ∀ {x1 : Int32} {M : Mem} {H : Heap} {locs : List Loc} {ls : Array Slot}, k41 x1 M = some (r, M1) → Rl E (sh_ b) (nn b) s.heap M H locs → lv_has ls 3 [(0, .ref (eB E + 47)), (1, .int x1)] → W p l e (rm 22 0 0) s m args below meth c H locs 0 0 (MQ below (qq E (some (.int r)) (sh_ b) (nn b) M1) args s 0 0 (fr E)) (F0 m 41 ls [])) : ∀ (n : Nat) {x1 : Int32} {x2 : Int32} {M : Mem} {H : Heap} {locs : List Loc} {ls : Array Slot}, fX11_findsLots_12 k41 n x1 x2 M = some (r, M1) → Rl E (sh_ b) (nn b) s.heap M H locs → lv_has ls 3 [(0, .ref (eB E + 47)), (1, .int x1), (2, .int x2)] → W p l e (rm 22 0 0) s m args below meth c H locs 0 0 (MQ below (qq E (some (.int r)) (sh_ b) (nn b) M1) args s 0 0 (fr E)) (F0 m 12 ls []) := by
  obtain ⟨hx, hb, hr, hml, hown, hts, hK, hN, hO, hlk, hbs⟩ := id X
  intro n
  induction n with
  | zero =>
    intro x1 x2 M H locs ls hf hR hl
    exact absurd (show none = some _ from hf) (fun h => by cases h)
  | succ n ih =>
    intro x1 x2 M H locs ls hf hR hl
    rw [fX11_findsLots_12] at hf
    refine lv_iload_n hx hb dX11_findsLots_12 rfl (lv_at hl 2 rfl) ?_
    refine lv_aload_n hx hb dX11_findsLots_13 rfl (lv_at hl 0 rfl) ?_
    obtain ⟨q14, c14, hf⟩ := br_b hf
    refine x_callV (k := 47) (As := []) (rest := [.int x2]) (st1 := [.int q14, .int x2]) X hR (ctX11_chosen c14) ml_X11_372 im_X11_chosen se_X11_chosen in_X11 co_X11_chosen yo_X11_chosen rfl kX11 (z_47 b) (rm_ok (by decide) (by decide)) rfl hl.1 rfl rfl (Nat.le_of_ble_eq_true rfl) dX11_findsLots_14 ⟨Nat.zero_le _, Nat.zero_le _⟩ (fun H locs hR => ?_)
    refine lv_icmp_ge (tgt := 41) hx hb dX11_findsLots_17 (by decide) (fun q17 => ?_) (fun q17 => ?_)
    · have hf := (br_if hf).1 q17
      exact hk41 hf hR (lv_sub hl [0, 1] rfl)
    · have hf := (br_if hf).2 q17
      refine lv_aload_n hx hb dX11_findsLots_20 rfl (lv_at hl 0 rfl) ?_
      refine x_get hx hb hown hts hK hR kX11 (z_47 b) (j := 40) (by decide) fl_X11_99 (v := .ref (eB E + 88)) rfl dX11_findsLots_21 ?_
      refine lv_iload_n hx hb dX11_findsLots_24 rfl (lv_at hl 1 rfl) ?_
      obtain ⟨g25, hf⟩ := br_g hf
      refine x_aald6 hx hb hK hR (z_88 b) g25 (r := (89 + ix x1)) (zq_88 g25) dX11_findsLots_25 ?_
      refine lv_iload_n hx hb dX11_findsLots_26 rfl (lv_at hl 2 rfl) ?_
      refine lv_aload_n hx hb dX11_findsLots_27 rfl (lv_at hl 0 rfl) ?_
      refine lv_iload_n hx hb dX11_findsLots_28 rfl (lv_at hl 1 rfl) ?_
      refine lv_iload_n hx hb dX11_findsLots_29 rfl (lv_at hl 2 rfl) ?_
      obtain ⟨q30, c30, hf⟩ := br_b hf
      refine x_callV (k := 47) (As := [.int x1, .int x2]) (rest := [.int x2, .ref (eB E + (89 + ix x1))]) (st1 := [.int q30, .int x2, .ref (eB E + (89 + ix x1))]) X hR (ctX11_gain c30) ml_X11_375 im_X11_gain se_X11_gain in_X11 co_X11_gain yo_X11_gain rfl kX11 (z_47 b) (rm_ok (by decide) (by decide)) rfl hl.1 rfl rfl (Nat.le_of_ble_eq_true rfl) dX11_findsLots_30 ⟨Nat.zero_le _, Nat.zero_le _⟩ (fun H locs hR => ?_)
      refine lv_i2l (v := q30.toInt64) hx hb dX11_findsLots_33 rfl ?_
      obtain ⟨g34, hf⟩ := br_g hf
      refine x_last hx hb hK hR (zr_88 b g25) g34 dX11_findsLots_34 (fun H locs hR => ?_)
      obtain ⟨M34, e34⟩ : ∃ y : Mem, y = (sL M (89 + ix x1) (ix x2) q30.toInt64) := ⟨_, rfl⟩
      have hf := nx_at e34 hf
      have hR : Rl E (sh_ b) (nn b) s.heap M34 H locs := by rw [e34]; exact hR
      obtain ⟨v35, e35⟩ : ∃ y : Int32, y = (x2 + (1 : Int32)) := ⟨_, rfl⟩
      have hf := nx_at e35 hf
      refine lv_iinc (v := v35) (lv' := [(2, .int v35), (0, .ref (eB E + 47)), (1, .int x1)]) hx hb dX11_findsLots_35 hl (k := 2) rfl (by rw [e35]; rfl) (by decide) rfl (fun ls hl => ?_)
      refine lv_goto (tgt := 12) hx hb dX11_findsLots_38 (by decide) ?_
      exact ih hf hR (lv_sub hl [1, 2, 0] rfl)
set_option maxHeartbeats 4000000 in
set_option maxRecDepth 100000 in
theorem wX11_findsLots_41 {r : Int32} {M1 : Mem} {k2 : Int32 → Mem → Option (Int32 × Mem)} {k47 : Mem → Option (Int32 × Mem)} (X : CX E p s m args c meth cX11_findsLots 3 (some .boolean) RX11) (hk2 : ∀ {x1 : Int32} {M : Mem} {H : Heap} {locs : List Loc} {ls : Array Slot}, k2 x1 M = some (r, M1) → Rl E (sh_ b) (nn b) s.heap M H locs → lv_has ls 3 [(0, .ref (eB E + 47)), (1, .int x1)] → W p l e (rm 22 0 0) s m args below meth c H locs 0 0 (MQ below (qq E (some (.int r)) (sh_ b) (nn b) M1) args s 0 0 (fr E)) (F0 m 2 ls [])) (hk47 : ∀ {M : Mem} {H : Heap} {locs : List Loc} {ls : Array Slot}, k47 M = some (r, M1) → Rl E (sh_ b) (nn b) s.heap M H locs → lv_has ls 3 [(0, .ref (eB E + 47))] → W p l e (rm 22 0 0) s m args below meth c H locs 0 0 (MQ below (qq E (some (.int r)) (sh_ b) (nn b) M1) args s 0 0 (fr E)) (F0 m 47 ls [])) : ∀ {x1 : Int32} {M : Mem} {H : Heap} {locs : List Loc} {ls : Array Slot}, fX11_findsLots_41 k2 k47 x1 M = some (r, M1) → Rl E (sh_ b) (nn b) s.heap M H locs → lv_has ls 3 [(0, .ref (eB E + 47)), (1, .int x1)] → W p l e (rm 22 0 0) s m args below meth c H locs 0 0 (MQ below (qq E (some (.int r)) (sh_ b) (nn b) M1) args s 0 0 (fr E)) (F0 m 41 ls []) := by
  obtain ⟨hx, hb, hr, hml, hown, hts, hK, hN, hO, hlk, hbs⟩ := id X
  intro x1 M H locs ls hf hR hl
  unfold fX11_findsLots_41 at hf
  obtain ⟨v41, e41⟩ : ∃ y : Int32, y = (x1 + (1 : Int32)) := ⟨_, rfl⟩
  have hf := nx_at e41 hf
  refine lv_iinc (v := v41) (lv' := [(1, .int v41), (0, .ref (eB E + 47))]) hx hb dX11_findsLots_41 hl (k := 1) rfl (by rw [e41]; rfl) (by decide) rfl (fun ls hl => ?_)
  refine lv_goto (tgt := 2) hx hb dX11_findsLots_44 (by decide) ?_
  exact hk2 hf hR (lv_sub hl [1, 0] rfl)
set_option maxHeartbeats 4000000 in
set_option maxRecDepth 100000 in
theorem wX11_findsLots_2 {r : Int32} {M1 : Mem} {k47 : Mem → Option (Int32 × Mem)} (X : CX E p s m args c meth cX11_findsLots 3 (some .boolean) RX11) (hk47 : ∀ {M : Mem} {H : Heap} {locs : List Loc} {ls : Array Slot}, k47 M = some (r, M1) → Rl E (sh_ b) (nn b) s.heap M H locs → lv_has ls 3 [(0, .ref (eB E + 47))] → W p l e (rm 22 0 0) s m args below meth c H locs 0 0 (MQ below (qq E (some (.int r)) (sh_ b) (nn b) M1) args s 0 0 (fr E)) (F0 m 47 ls [])) : ∀ (n : Nat) {x1 : Int32} {M : Mem} {H : Heap} {locs : List Loc} {ls : Array Slot}, fX11_findsLots_2 k47 n x1 M = some (r, M1) → Rl E (sh_ b) (nn b) s.heap M H locs → lv_has ls 3 [(0, .ref (eB E + 47)), (1, .int x1)] → W p l e (rm 22 0 0) s m args below meth c H locs 0 0 (MQ below (qq E (some (.int r)) (sh_ b) (nn b) M1) args s 0 0 (fr E)) (F0 m 2 ls []) := by
  obtain ⟨hx, hb, hr, hml, hown, hts, hK, hN, hO, hlk, hbs⟩ := id X
  intro n
  induction n with
  | zero =>
    intro x1 M H locs ls hf hR hl
    exact absurd (show none = some _ from hf) (fun h => by cases h)
  | succ n ih =>
    intro x1 M H locs ls hf hR hl
    rw [fX11_findsLots_2] at hf
    refine lv_iload_n hx hb dX11_findsLots_2 rfl (lv_at hl 1 rfl) ?_
    refine lv_aload_n hx hb dX11_findsLots_3 rfl (lv_at hl 0 rfl) ?_
    obtain ⟨q4, c4, hf⟩ := br_b hf
    refine x_callV (k := 47) (As := []) (rest := [.int x1]) (st1 := [.int q4, .int x1]) X hR (ctX11_chosen c4) ml_X11_372 im_X11_chosen se_X11_chosen in_X11 co_X11_chosen yo_X11_chosen rfl kX11 (z_47 b) (rm_ok (by decide) (by decide)) rfl hl.1 rfl rfl (Nat.le_of_ble_eq_true rfl) dX11_findsLots_4 ⟨Nat.zero_le _, Nat.zero_le _⟩ (fun H locs hR => ?_)
    refine lv_icmp_ge (tgt := 47) hx hb dX11_findsLots_7 (by decide) (fun q7 => ?_) (fun q7 => ?_)
    · have hf := (br_if hf).1 q7
      exact hk47 hf hR (lv_sub hl [0] rfl)
    · have hf := (br_if hf).2 q7
      refine lv_iconst (v := 0) hx hb dX11_findsLots_10 (by decide) ?_
      refine lv_istore_n (lv' := [(2, .int (0 : Int32)), (0, .ref (eB E + 47)), (1, .int x1)]) hx hb dX11_findsLots_11 rfl hl (by decide) rfl (fun ls hl => ?_)
      exact wX11_findsLots_12 X (fun hf hR hl => wX11_findsLots_41 X (fun hf hR hl => ih hf hR hl) (fun hf hR hl => hk47 hf hR hl) hf hR hl) FU hf hR (lv_sub hl [1, 2, 0] rfl)
set_option maxHeartbeats 4000000 in
set_option maxRecDepth 100000 in
theorem wX11_findsLots_87 {r : Int32} {M1 : Mem} {k59 : Int32 → Int32 → Mem → Option (Int32 × Mem)} {k85 : Mem → Option (Int32 × Mem)} {k93 : Int32 → Mem → Option (Int32 × Mem)} (X : CX E p s m args c meth cX11_findsLots 3 (some .boolean) RX11) (hk59 : ∀ {x1 : Int32} {x2 : Int32} {M : Mem} {H : Heap} {locs : List Loc} {ls : Array Slot}, k59 x1 x2 M = some (r, M1) → Rl E (sh_ b) (nn b) s.heap M H locs → lv_has ls 3 [(0, .ref (eB E + 47)), (1, .int x1), (2, .int x2)] → W p l e (rm 22 0 0) s m args below meth c H locs 0 0 (MQ below (qq E (some (.int r)) (sh_ b) (nn b) M1) args s 0 0 (fr E)) (F0 m 59 ls [])) (hk85 : ∀ {M : Mem} {H : Heap} {locs : List Loc} {ls : Array Slot}, k85 M = some (r, M1) → Rl E (sh_ b) (nn b) s.heap M H locs → lv_has ls 3 [] → W p l e (rm 22 0 0) s m args below meth c H locs 0 0 (MQ below (qq E (some (.int r)) (sh_ b) (nn b) M1) args s 0 0 (fr E)) (F0 m 85 ls [])) (hk93 : ∀ {x1 : Int32} {M : Mem} {H : Heap} {locs : List Loc} {ls : Array Slot}, k93 x1 M = some (r, M1) → Rl E (sh_ b) (nn b) s.heap M H locs → lv_has ls 3 [(0, .ref (eB E + 47)), (1, .int x1)] → W p l e (rm 22 0 0) s m args below meth c H locs 0 0 (MQ below (qq E (some (.int r)) (sh_ b) (nn b) M1) args s 0 0 (fr E)) (F0 m 93 ls [])) : ∀ {x1 : Int32} {x2 : Int32} {M : Mem} {H : Heap} {locs : List Loc} {ls : Array Slot}, fX11_findsLots_87 k59 k85 k93 x1 x2 M = some (r, M1) → Rl E (sh_ b) (nn b) s.heap M H locs → lv_has ls 3 [(0, .ref (eB E + 47)), (1, .int x1), (2, .int x2)] → W p l e (rm 22 0 0) s m args below meth c H locs 0 0 (MQ below (qq E (some (.int r)) (sh_ b) (nn b) M1) args s 0 0 (fr E)) (F0 m 87 ls []) := by
  obtain ⟨hx, hb, hr, hml, hown, hts, hK, hN, hO, hlk, hbs⟩ := id X
  intro x1 x2 M H locs ls hf hR hl
  unfold fX11_findsLots_87 at hf
  obtain ⟨v87, e87⟩ : ∃ y : Int32, y = (x2 + (1 : Int32)) := ⟨_, rfl⟩
  have hf := nx_at e87 hf
  refine lv_iinc (v := v87) (lv' := [(2, .int v87), (0, .ref (eB E + 47)), (1, .int x1)]) hx hb dX11_findsLots_87 hl (k := 2) rfl (by rw [e87]; rfl) (by decide) rfl (fun ls hl => ?_)
  refine lv_goto (tgt := 59) hx hb dX11_findsLots_90 (by decide) ?_
  exact hk59 hf hR (lv_sub hl [1, 2, 0] rfl)
set_option maxHeartbeats 4000000 in
set_option maxRecDepth 100000 in
theorem wX11_findsLots_59 {r : Int32} {M1 : Mem} {k85 : Mem → Option (Int32 × Mem)} {k93 : Int32 → Mem → Option (Int32 × Mem)} (X : CX E p s m args c meth cX11_findsLots 3 (some .boolean) RX11) (hk85 : ∀ {M : Mem} {H : Heap} {locs : List Loc} {ls : Array Slot}, k85 M = some (r, M1) → Rl E (sh_ b) (nn b) s.heap M H locs → lv_has ls 3 [] → W p l e (rm 22 0 0) s m args below meth c H locs 0 0 (MQ below (qq E (some (.int r)) (sh_ b) (nn b) M1) args s 0 0 (fr E)) (F0 m 85 ls [])) (hk93 : ∀ {x1 : Int32} {M : Mem} {H : Heap} {locs : List Loc} {ls : Array Slot}, k93 x1 M = some (r, M1) → Rl E (sh_ b) (nn b) s.heap M H locs → lv_has ls 3 [(0, .ref (eB E + 47)), (1, .int x1)] → W p l e (rm 22 0 0) s m args below meth c H locs 0 0 (MQ below (qq E (some (.int r)) (sh_ b) (nn b) M1) args s 0 0 (fr E)) (F0 m 93 ls [])) : ∀ (n : Nat) {x1 : Int32} {x2 : Int32} {M : Mem} {H : Heap} {locs : List Loc} {ls : Array Slot}, fX11_findsLots_59 k85 k93 n x1 x2 M = some (r, M1) → Rl E (sh_ b) (nn b) s.heap M H locs → lv_has ls 3 [(0, .ref (eB E + 47)), (1, .int x1), (2, .int x2)] → W p l e (rm 22 0 0) s m args below meth c H locs 0 0 (MQ below (qq E (some (.int r)) (sh_ b) (nn b) M1) args s 0 0 (fr E)) (F0 m 59 ls []) := by
  obtain ⟨hx, hb, hr, hml, hown, hts, hK, hN, hO, hlk, hbs⟩ := id X
  intro n
  induction n with
  | zero =>
    intro x1 x2 M H locs ls hf hR hl
    exact absurd (show none = some _ from hf) (fun h => by cases h)
  | succ n ih =>
    intro x1 x2 M H locs ls hf hR hl
    rw [fX11_findsLots_59] at hf
    refine lv_iload_n hx hb dX11_findsLots_59 rfl (lv_at hl 2 rfl) ?_
    refine lv_iconst (v := 1) hx hb dX11_findsLots_60 (by decide) ?_
    refine lv_aload_n hx hb dX11_findsLots_61 rfl (lv_at hl 0 rfl) ?_
    obtain ⟨q62, c62, hf⟩ := br_b hf
    refine x_callV (k := 47) (As := []) (rest := [.int (1 : Int32), .int x2]) (st1 := [.int q62, .int (1 : Int32), .int x2]) X hR (ctX11_chosen c62) ml_X11_372 im_X11_chosen se_X11_chosen in_X11 co_X11_chosen yo_X11_chosen rfl kX11 (z_47 b) (rm_ok (by decide) (by decide)) rfl hl.1 rfl rfl (Nat.le_of_ble_eq_true rfl) dX11_findsLots_62 ⟨Nat.zero_le _, Nat.zero_le _⟩ (fun H locs hR => ?_)
    refine lv_ishl hx hb dX11_findsLots_65 ?_
    refine lv_icmp_ge (tgt := 93) hx hb dX11_findsLots_66 (by decide) (fun q66 => ?_) (fun q66 => ?_)
    · have hf := (br_if hf).1 q66
      exact hk93 hf hR (lv_sub hl [0, 1] rfl)
    · have hf := (br_if hf).2 q66
      refine lv_iload_n hx hb dX11_findsLots_69 rfl (lv_at hl 2 rfl) ?_
      obtain ⟨q70, c70, hf⟩ := br_b hf
      refine x_callS (As := [.int x2]) (rest := []) (st1 := [.int q70]) X hR (ctJ6_bitCount_0f7a4 c70) ml_X11_387 st_J6_bitCount_0f7a4 in_J6 co_J6_bitCount_0f7a4 yo_J6_bitCount_0f7a4 (rm_ok (by decide) (by decide)) rfl hl.1 rfl rfl (Nat.le_of_ble_eq_true rfl) dX11_findsLots_70 ⟨Nat.zero_le _, Nat.zero_le _⟩ (fun H locs hR => ?_)
      refine lv_iload_n hx hb dX11_findsLots_73 rfl (lv_at hl 1 rfl) ?_
      refine lv_icmp_ne (tgt := 87) hx hb dX11_findsLots_74 (by decide) (fun q74 => ?_) (fun q74 => ?_)
      · have hf := (br_if hf).2 q74
        exact wX11_findsLots_87 X (fun hf hR hl => ih hf hR hl) (fun hf hR hl => hk85 hf hR hl) (fun hf hR hl => hk93 hf hR hl) hf hR hl
      · have hf := (br_if hf).1 q74
        refine lv_aload_n hx hb dX11_findsLots_77 rfl (lv_at hl 0 rfl) ?_
        refine lv_iload_n hx hb dX11_findsLots_78 rfl (lv_at hl 2 rfl) ?_
        obtain ⟨q79, c79, hf⟩ := br_b hf
        refine x_callV (k := 47) (As := [.int x2]) (rest := []) (st1 := [.int q79.1]) X hR (ctX11_isLot c79) ml_X11_390 im_X11_isLot se_X11_isLot in_X11 co_X11_isLot yo_X11_isLot rfl kX11 (z_47 b) (rm_ok (by decide) (by decide)) rfl hl.1 rfl rfl (Nat.le_of_ble_eq_true rfl) dX11_findsLots_79 ⟨Nat.zero_le _, Nat.zero_le _⟩ (fun H locs hR => ?_)
        refine lv_if_eq (tgt := 87) hx hb dX11_findsLots_82 (by decide) (fun q82 => ?_) (fun q82 => ?_)
        · have hf := (br_if hf).1 q82
          exact wX11_findsLots_87 X (fun hf hR hl => ih hf hR hl) (fun hf hR hl => hk85 hf hR hl) (fun hf hR hl => hk93 hf hR hl) hf hR hl
        · have hf := (br_if hf).2 q82
          exact hk85 hf hR (lv_sub hl [] rfl)
set_option maxHeartbeats 4000000 in
set_option maxRecDepth 100000 in
theorem wX11_findsLots_93 {r : Int32} {M1 : Mem} {k49 : Int32 → Mem → Option (Int32 × Mem)} {k85 : Mem → Option (Int32 × Mem)} {k99 : Mem → Option (Int32 × Mem)} (X : CX E p s m args c meth cX11_findsLots 3 (some .boolean) RX11) (hk49 : ∀ {x1 : Int32} {M : Mem} {H : Heap} {locs : List Loc} {ls : Array Slot}, k49 x1 M = some (r, M1) → Rl E (sh_ b) (nn b) s.heap M H locs → lv_has ls 3 [(0, .ref (eB E + 47)), (1, .int x1)] → W p l e (rm 22 0 0) s m args below meth c H locs 0 0 (MQ below (qq E (some (.int r)) (sh_ b) (nn b) M1) args s 0 0 (fr E)) (F0 m 49 ls [])) (hk85 : ∀ {M : Mem} {H : Heap} {locs : List Loc} {ls : Array Slot}, k85 M = some (r, M1) → Rl E (sh_ b) (nn b) s.heap M H locs → lv_has ls 3 [] → W p l e (rm 22 0 0) s m args below meth c H locs 0 0 (MQ below (qq E (some (.int r)) (sh_ b) (nn b) M1) args s 0 0 (fr E)) (F0 m 85 ls [])) (hk99 : ∀ {M : Mem} {H : Heap} {locs : List Loc} {ls : Array Slot}, k99 M = some (r, M1) → Rl E (sh_ b) (nn b) s.heap M H locs → lv_has ls 3 [] → W p l e (rm 22 0 0) s m args below meth c H locs 0 0 (MQ below (qq E (some (.int r)) (sh_ b) (nn b) M1) args s 0 0 (fr E)) (F0 m 99 ls [])) : ∀ {x1 : Int32} {M : Mem} {H : Heap} {locs : List Loc} {ls : Array Slot}, fX11_findsLots_93 k49 k85 k99 x1 M = some (r, M1) → Rl E (sh_ b) (nn b) s.heap M H locs → lv_has ls 3 [(0, .ref (eB E + 47)), (1, .int x1)] → W p l e (rm 22 0 0) s m args below meth c H locs 0 0 (MQ below (qq E (some (.int r)) (sh_ b) (nn b) M1) args s 0 0 (fr E)) (F0 m 93 ls []) := by
  obtain ⟨hx, hb, hr, hml, hown, hts, hK, hN, hO, hlk, hbs⟩ := id X
  intro x1 M H locs ls hf hR hl
  unfold fX11_findsLots_93 at hf
  obtain ⟨v93, e93⟩ : ∃ y : Int32, y = (x1 + (2 : Int32)) := ⟨_, rfl⟩
  have hf := nx_at e93 hf
  refine lv_iinc (v := v93) (lv' := [(1, .int v93), (0, .ref (eB E + 47))]) hx hb dX11_findsLots_93 hl (k := 1) rfl (by rw [e93]; rfl) (by decide) rfl (fun ls hl => ?_)
  refine lv_goto (tgt := 49) hx hb dX11_findsLots_96 (by decide) ?_
  exact hk49 hf hR (lv_sub hl [1, 0] rfl)
set_option maxHeartbeats 4000000 in
set_option maxRecDepth 100000 in
theorem wX11_findsLots_49 {r : Int32} {M1 : Mem} {k85 : Mem → Option (Int32 × Mem)} {k99 : Mem → Option (Int32 × Mem)} (X : CX E p s m args c meth cX11_findsLots 3 (some .boolean) RX11) (hk85 : ∀ {M : Mem} {H : Heap} {locs : List Loc} {ls : Array Slot}, k85 M = some (r, M1) → Rl E (sh_ b) (nn b) s.heap M H locs → lv_has ls 3 [] → W p l e (rm 22 0 0) s m args below meth c H locs 0 0 (MQ below (qq E (some (.int r)) (sh_ b) (nn b) M1) args s 0 0 (fr E)) (F0 m 85 ls [])) (hk99 : ∀ {M : Mem} {H : Heap} {locs : List Loc} {ls : Array Slot}, k99 M = some (r, M1) → Rl E (sh_ b) (nn b) s.heap M H locs → lv_has ls 3 [] → W p l e (rm 22 0 0) s m args below meth c H locs 0 0 (MQ below (qq E (some (.int r)) (sh_ b) (nn b) M1) args s 0 0 (fr E)) (F0 m 99 ls [])) : ∀ (n : Nat) {x1 : Int32} {M : Mem} {H : Heap} {locs : List Loc} {ls : Array Slot}, fX11_findsLots_49 k85 k99 n x1 M = some (r, M1) → Rl E (sh_ b) (nn b) s.heap M H locs → lv_has ls 3 [(0, .ref (eB E + 47)), (1, .int x1)] → W p l e (rm 22 0 0) s m args below meth c H locs 0 0 (MQ below (qq E (some (.int r)) (sh_ b) (nn b) M1) args s 0 0 (fr E)) (F0 m 49 ls []) := by
  obtain ⟨hx, hb, hr, hml, hown, hts, hK, hN, hO, hlk, hbs⟩ := id X
  intro n
  induction n with
  | zero =>
    intro x1 M H locs ls hf hR hl
    exact absurd (show none = some _ from hf) (fun h => by cases h)
  | succ n ih =>
    intro x1 M H locs ls hf hR hl
    rw [fX11_findsLots_49] at hf
    refine lv_iload_n hx hb dX11_findsLots_49 rfl (lv_at hl 1 rfl) ?_
    refine lv_aload_n hx hb dX11_findsLots_50 rfl (lv_at hl 0 rfl) ?_
    obtain ⟨q51, c51, hf⟩ := br_b hf
    refine x_callV (k := 47) (As := []) (rest := [.int x1]) (st1 := [.int q51, .int x1]) X hR (ctX11_chosen c51) ml_X11_372 im_X11_chosen se_X11_chosen in_X11 co_X11_chosen yo_X11_chosen rfl kX11 (z_47 b) (rm_ok (by decide) (by decide)) rfl hl.1 rfl rfl (Nat.le_of_ble_eq_true rfl) dX11_findsLots_51 ⟨Nat.zero_le _, Nat.zero_le _⟩ (fun H locs hR => ?_)
    refine lv_icmp_gt (tgt := 99) hx hb dX11_findsLots_54 (by decide) (fun q54 => ?_) (fun q54 => ?_)
    · have hf := (br_if hf).1 q54
      exact hk99 hf hR (lv_sub hl [] rfl)
    · have hf := (br_if hf).2 q54
      refine lv_iconst (v := 1) hx hb dX11_findsLots_57 (by decide) ?_
      refine lv_istore_n (lv' := [(2, .int (1 : Int32)), (0, .ref (eB E + 47)), (1, .int x1)]) hx hb dX11_findsLots_58 rfl hl (by decide) rfl (fun ls hl => ?_)
      exact wX11_findsLots_59 X (fun hf hR hl => hk85 hf hR hl) (fun hf hR hl => wX11_findsLots_93 X (fun hf hR hl => ih hf hR hl) (fun hf hR hl => hk85 hf hR hl) (fun hf hR hl => hk99 hf hR hl) hf hR hl) FU hf hR (lv_sub hl [1, 2, 0] rfl)
set_option maxHeartbeats 4000000 in
set_option maxRecDepth 100000 in
theorem wX11_findsLots_85 {r : Int32} {M1 : Mem} (X : CX E p s m args c meth cX11_findsLots 3 (some .boolean) RX11) : ∀ {M : Mem} {H : Heap} {locs : List Loc} {ls : Array Slot}, fX11_findsLots_85 M = some (r, M1) → Rl E (sh_ b) (nn b) s.heap M H locs → lv_has ls 3 [] → W p l e (rm 22 0 0) s m args below meth c H locs 0 0 (MQ below (qq E (some (.int r)) (sh_ b) (nn b) M1) args s 0 0 (fr E)) (F0 m 85 ls []) := by
  obtain ⟨hx, hb, hr, hml, hown, hts, hK, hN, hO, hlk, hbs⟩ := id X
  intro M H locs ls hf hR hl
  unfold fX11_findsLots_85 at hf
  refine lv_iconst (v := 1) hx hb dX11_findsLots_85 (by decide) ?_
  cases hf
  exact x_zret hx hb hr hlk hR (by decide) dX11_findsLots_86
set_option maxHeartbeats 4000000 in
set_option maxRecDepth 100000 in
theorem wX11_findsLots_99 {r : Int32} {M1 : Mem} (X : CX E p s m args c meth cX11_findsLots 3 (some .boolean) RX11) : ∀ {M : Mem} {H : Heap} {locs : List Loc} {ls : Array Slot}, fX11_findsLots_99 M = some (r, M1) → Rl E (sh_ b) (nn b) s.heap M H locs → lv_has ls 3 [] → W p l e (rm 22 0 0) s m args below meth c H locs 0 0 (MQ below (qq E (some (.int r)) (sh_ b) (nn b) M1) args s 0 0 (fr E)) (F0 m 99 ls []) := by
  obtain ⟨hx, hb, hr, hml, hown, hts, hK, hN, hO, hlk, hbs⟩ := id X
  intro M H locs ls hf hR hl
  unfold fX11_findsLots_99 at hf
  refine lv_iconst (v := 0) hx hb dX11_findsLots_99 (by decide) ?_
  cases hf
  exact x_zret hx hb hr hlk hR (by decide) dX11_findsLots_100
set_option maxHeartbeats 4000000 in
set_option maxRecDepth 100000 in
theorem wX11_findsLots_47 {r : Int32} {M1 : Mem} (X : CX E p s m args c meth cX11_findsLots 3 (some .boolean) RX11) : ∀ {M : Mem} {H : Heap} {locs : List Loc} {ls : Array Slot}, fX11_findsLots_47 M = some (r, M1) → Rl E (sh_ b) (nn b) s.heap M H locs → lv_has ls 3 [(0, .ref (eB E + 47))] → W p l e (rm 22 0 0) s m args below meth c H locs 0 0 (MQ below (qq E (some (.int r)) (sh_ b) (nn b) M1) args s 0 0 (fr E)) (F0 m 47 ls []) := by
  obtain ⟨hx, hb, hr, hml, hown, hts, hK, hN, hO, hlk, hbs⟩ := id X
  intro M H locs ls hf hR hl
  unfold fX11_findsLots_47 at hf
  refine lv_iconst (v := 1) hx hb dX11_findsLots_47 (by decide) ?_
  refine lv_istore_n (lv' := [(1, .int (1 : Int32)), (0, .ref (eB E + 47))]) hx hb dX11_findsLots_48 rfl hl (by decide) rfl (fun ls hl => ?_)
  exact wX11_findsLots_49 X (fun hf hR hl => wX11_findsLots_85 X hf hR hl) (fun hf hR hl => wX11_findsLots_99 X hf hR hl) FU hf hR (lv_sub hl [1, 0] rfl)
set_option maxHeartbeats 4000000 in
set_option maxRecDepth 100000 in
theorem wX11_findsLots_0 {r : Int32} {M1 : Mem} (X : CX E p s m args c meth cX11_findsLots 3 (some .boolean) RX11) : ∀ {M : Mem} {H : Heap} {locs : List Loc} {ls : Array Slot}, fX11_findsLots M = some (r, M1) → Rl E (sh_ b) (nn b) s.heap M H locs → lv_has ls 3 [(0, .ref (eB E + 47))] → W p l e (rm 22 0 0) s m args below meth c H locs 0 0 (MQ below (qq E (some (.int r)) (sh_ b) (nn b) M1) args s 0 0 (fr E)) (F0 m 0 ls []) := by
  obtain ⟨hx, hb, hr, hml, hown, hts, hK, hN, hO, hlk, hbs⟩ := id X
  intro M H locs ls hf hR hl
  unfold fX11_findsLots at hf
  refine lv_iconst (v := 0) hx hb dX11_findsLots_0 (by decide) ?_
  refine lv_istore_n (lv' := [(1, .int (0 : Int32)), (0, .ref (eB E + 47))]) hx hb dX11_findsLots_1 rfl hl (by decide) rfl (fun ls hl => ?_)
  exact wX11_findsLots_2 X (fun hf hR hl => wX11_findsLots_47 X hf hR hl) FU hf hR (lv_sub hl [1, 0] rfl)
theorem ctX11_findsLots {l : Launch} {E : Ge} {b : Bool} {M : Mem} {r : Int32} {M1 : Mem} (h : fX11_findsLots M = some (r, M1)) : CT l E yX11_findsLots cX11_findsLots 3 (some .boolean) 22 0 0 [.ref (eB E + 47)] (some (.int r)) (sh_ b) (nn b) M (sh_ b) (nn b) M1 := by
  refine met_of (by decide) (Nat.le_of_ble_eq_true rfl) ?_
  intro p e s m args below meth c X _ hR ls hl
  exact wX11_findsLots_0 X h hR hl
def fX11_findsMiddles_7 (k44 : Mem → Option Mem) : Nat → Int32 → Mem → Option Mem
  | 0, _, _ => none
  | n + 1, x1, M => (fX11_voters M).bind (fun q9 => (if q9 ≤ x1 then k44 M else (if inb x1 15 = true then (if inb x1 15 = true then (fX11_addsMiddle ((M.1 50 (ix x1)).toInt64) ((M.1 53 (ix x1)).toInt64) (1 : Int64) M).bind (fun q35 => nx (x1 + (1 : Int32)) (fun v38 => fX11_findsMiddles_7 k44 n v38 q35)) else none) else none)))
def fX11_findsMiddles_169 (k56 : Int32 → Int32 → Mem → Option Mem) (k175 : Int32 → Mem → Option Mem) (x1 : Int32) (x2 : Int32) (M : Mem) : Option Mem := nx (x2 + (1 : Int32)) (fun v169 => k56 x1 v169 M)
def fX11_findsMiddles_56 (k175 : Int32 → Mem → Option Mem) : Nat → Int32 → Int32 → Mem → Option Mem
  | 0, _, _, _ => none
  | n + 1, x1, x2, M => (if x1 ≤ x2 then k175 x1 M else (if inb x1 105 = true then (if inb x2 105 = true then (if inb x2 105 = true then (if inb x1 105 = true then nx (((M.1 79 (ix x1)).toInt64 * (M.1 80 (ix x2)).toInt64) - ((M.1 79 (ix x2)).toInt64 * (M.1 80 (ix x1)).toInt64)) (fun v92 => (if (lg_cmp v92 (0 : Int64)) = 0 then fX11_findsMiddles_169 (fX11_findsMiddles_56 k175 n) k175 x1 x2 M else (if inb x1 105 = true then (if inb x2 105 = true then (if inb x2 105 = true then (if inb x1 105 = true then (if inb x1 105 = true then (if inb x2 105 = true then (if inb x2 105 = true then (if inb x1 105 = true then (fX11_addsMiddle (((M.1 81 (ix x1)).toInt64 * (M.1 80 (ix x2)).toInt64) - ((M.1 81 (ix x2)).toInt64 * (M.1 80 (ix x1)).toInt64)) (((M.1 79 (ix x1)).toInt64 * (M.1 81 (ix x2)).toInt64) - ((M.1 79 (ix x2)).toInt64 * (M.1 81 (ix x1)).toInt64)) v92 M).bind (fun q166 => fX11_findsMiddles_169 (fX11_findsMiddles_56 k175 n) k175 x1 x2 q166) else none) else none) else none) else none) else none) else none) else none) else none))) else none) else none) else none) else none))
def fX11_findsMiddles_175 (k46 : Int32 → Mem → Option Mem) (k181 : Mem → Option Mem) (x1 : Int32) (M : Mem) : Option Mem := nx (x1 + (1 : Int32)) (fun v175 => k46 v175 M)
def fX11_findsMiddles_46 (k181 : Mem → Option Mem) : Nat → Int32 → Mem → Option Mem
  | 0, _, _ => none
  | n + 1, x1, M => (if (M.1 47 27) ≤ x1 then k181 M else fX11_findsMiddles_56 (fX11_findsMiddles_175 (fX11_findsMiddles_46 k181 n) k181) FU x1 (0 : Int32) M)
def fX11_findsMiddles_181 (M : Mem) : Option Mem := some M
def fX11_findsMiddles_44 (M : Mem) : Option Mem := fX11_findsMiddles_46 fX11_findsMiddles_181 FU (0 : Int32) M
def fX11_findsMiddles (M : Mem) : Option Mem := nx (sI M 47 28 (0 : Int32)) (fun M2 => fX11_findsMiddles_7 fX11_findsMiddles_44 FU (0 : Int32) M2)
set_option maxHeartbeats 4000000 in
set_option maxRecDepth 100000 in
theorem wX11_findsMiddles_7 {M1 : Mem} {k44 : Mem → Option Mem} (X : CX E p s m args c meth cX11_findsMiddles 5 none RX11) (hk44 : ∀ {M : Mem} {H : Heap} {locs : List Loc} {ls : Array Slot}, k44 M = some M1 → Rl E (sh_ b) (nn b) s.heap M H locs → lv_has ls 5 [(0, .ref (eB E + 47))] → W p l e (rm 5 0 0) s m args below meth c H locs 0 0 (MQ below (qq E none (sh_ b) (nn b) M1) args s 0 0 (fr E)) (F0 m 44 ls [])) : ∀ (n : Nat) {x1 : Int32} {M : Mem} {H : Heap} {locs : List Loc} {ls : Array Slot}, fX11_findsMiddles_7 k44 n x1 M = some M1 → Rl E (sh_ b) (nn b) s.heap M H locs → lv_has ls 5 [(0, .ref (eB E + 47)), (1, .int x1)] → W p l e (rm 5 0 0) s m args below meth c H locs 0 0 (MQ below (qq E none (sh_ b) (nn b) M1) args s 0 0 (fr E)) (F0 m 7 ls []) := by
  obtain ⟨hx, hb, hr, hml, hown, hts, hK, hN, hO, hlk, hbs⟩ := id X
  intro n
  induction n with
  | zero =>
    intro x1 M H locs ls hf hR hl
    exact absurd (show none = some _ from hf) (fun h => by cases h)
  | succ n ih =>
    intro x1 M H locs ls hf hR hl
    rw [fX11_findsMiddles_7] at hf
    refine lv_iload_n hx hb dX11_findsMiddles_7 rfl (lv_at hl 1 rfl) ?_
    refine lv_aload_n hx hb dX11_findsMiddles_8 rfl (lv_at hl 0 rfl) ?_
    obtain ⟨q9, c9, hf⟩ := br_b hf
    refine x_callV (k := 47) (As := []) (rest := [.int x1]) (st1 := [.int q9, .int x1]) X hR (ctX11_voters c9) ml_X11_237 im_X11_voters se_X11_voters in_X11 co_X11_voters yo_X11_voters rfl kX11 (z_47 b) (rm_ok (by decide) (by decide)) rfl hl.1 rfl rfl (Nat.le_of_ble_eq_true rfl) dX11_findsMiddles_9 ⟨Nat.zero_le _, Nat.zero_le _⟩ (fun H locs hR => ?_)
    refine lv_icmp_ge (tgt := 44) hx hb dX11_findsMiddles_12 (by decide) (fun q12 => ?_) (fun q12 => ?_)
    · have hf := (br_if hf).1 q12
      exact hk44 hf hR (lv_sub hl [0] rfl)
    · have hf := (br_if hf).2 q12
      refine lv_aload_n hx hb dX11_findsMiddles_15 rfl (lv_at hl 0 rfl) ?_
      refine lv_aload_n hx hb dX11_findsMiddles_16 rfl (lv_at hl 0 rfl) ?_
      refine x_get hx hb hown hts hK hR kX11 (z_47 b) (j := 6) (by decide) fl_X11_15 (v := .ref (eB E + 49)) rfl dX11_findsMiddles_17 ?_
      refine lv_iconst (v := 0) hx hb dX11_findsMiddles_20 (by decide) ?_
      refine x_aald5 hx hb hK hR (z_49 b) (by decide) (r := 50) rfl dX11_findsMiddles_21 ?_
      refine lv_iload_n hx hb dX11_findsMiddles_22 rfl (lv_at hl 1 rfl) ?_
      obtain ⟨g23, hf⟩ := br_g hf
      refine x_iald hx hb hK hR (z_50 b) g23 dX11_findsMiddles_23 ?_
      refine lv_i2l (v := (M.1 50 (ix x1)).toInt64) hx hb dX11_findsMiddles_24 rfl ?_
      refine lv_aload_n hx hb dX11_findsMiddles_25 rfl (lv_at hl 0 rfl) ?_
      refine x_get hx hb hown hts hK hR kX11 (z_47 b) (j := 7) (by decide) fl_X11_18 (v := .ref (eB E + 52)) rfl dX11_findsMiddles_26 ?_
      refine lv_iconst (v := 0) hx hb dX11_findsMiddles_29 (by decide) ?_
      refine x_aald5 hx hb hK hR (z_52 b) (by decide) (r := 53) rfl dX11_findsMiddles_30 ?_
      refine lv_iload_n hx hb dX11_findsMiddles_31 rfl (lv_at hl 1 rfl) ?_
      obtain ⟨g32, hf⟩ := br_g hf
      refine x_iald hx hb hK hR (z_53 b) g32 dX11_findsMiddles_32 ?_
      refine lv_i2l (v := (M.1 53 (ix x1)).toInt64) hx hb dX11_findsMiddles_33 rfl ?_
      refine lv_lconst (v := 1) hx hb dX11_findsMiddles_34 (by decide) ?_
      obtain ⟨q35, c35, hf⟩ := br_b hf
      refine x_callV (k := 47) (As := [.long (M.1 50 (ix x1)).toInt64, .long (M.1 53 (ix x1)).toInt64, .long (1 : Int64)]) (rest := []) (st1 := []) X hR (ctX11_addsMiddle c35) ml_X11_327 im_X11_addsMiddle se_X11_addsMiddle in_X11 co_X11_addsMiddle yo_X11_addsMiddle rfl kX11 (z_47 b) (rm_ok (by decide) (by decide)) rfl hl.1 rfl rfl (Nat.le_of_ble_eq_true rfl) dX11_findsMiddles_35 ⟨Nat.zero_le _, Nat.zero_le _⟩ (fun H locs hR => ?_)
      obtain ⟨v38, e38⟩ : ∃ y : Int32, y = (x1 + (1 : Int32)) := ⟨_, rfl⟩
      have hf := nx_at e38 hf
      refine lv_iinc (v := v38) (lv' := [(1, .int v38), (0, .ref (eB E + 47))]) hx hb dX11_findsMiddles_38 hl (k := 1) rfl (by rw [e38]; rfl) (by decide) rfl (fun ls hl => ?_)
      refine lv_goto (tgt := 7) hx hb dX11_findsMiddles_41 (by decide) ?_
      exact ih hf hR (lv_sub hl [1, 0] rfl)
set_option maxHeartbeats 4000000 in
set_option maxRecDepth 100000 in
theorem wX11_findsMiddles_169 {M1 : Mem} {k56 : Int32 → Int32 → Mem → Option Mem} {k175 : Int32 → Mem → Option Mem} (X : CX E p s m args c meth cX11_findsMiddles 5 none RX11) (hk56 : ∀ {x1 : Int32} {x2 : Int32} {M : Mem} {H : Heap} {locs : List Loc} {ls : Array Slot}, k56 x1 x2 M = some M1 → Rl E (sh_ b) (nn b) s.heap M H locs → lv_has ls 5 [(0, .ref (eB E + 47)), (1, .int x1), (2, .int x2)] → W p l e (rm 5 0 0) s m args below meth c H locs 0 0 (MQ below (qq E none (sh_ b) (nn b) M1) args s 0 0 (fr E)) (F0 m 56 ls [])) (hk175 : ∀ {x1 : Int32} {M : Mem} {H : Heap} {locs : List Loc} {ls : Array Slot}, k175 x1 M = some M1 → Rl E (sh_ b) (nn b) s.heap M H locs → lv_has ls 5 [(0, .ref (eB E + 47)), (1, .int x1)] → W p l e (rm 5 0 0) s m args below meth c H locs 0 0 (MQ below (qq E none (sh_ b) (nn b) M1) args s 0 0 (fr E)) (F0 m 175 ls [])) : ∀ {x1 : Int32} {x2 : Int32} {M : Mem} {H : Heap} {locs : List Loc} {ls : Array Slot}, fX11_findsMiddles_169 k56 k175 x1 x2 M = some M1 → Rl E (sh_ b) (nn b) s.heap M H locs → lv_has ls 5 [(0, .ref (eB E + 47)), (1, .int x1), (2, .int x2)] → W p l e (rm 5 0 0) s m args below meth c H locs 0 0 (MQ below (qq E none (sh_ b) (nn b) M1) args s 0 0 (fr E)) (F0 m 169 ls []) := by
  obtain ⟨hx, hb, hr, hml, hown, hts, hK, hN, hO, hlk, hbs⟩ := id X
  intro x1 x2 M H locs ls hf hR hl
  unfold fX11_findsMiddles_169 at hf
  obtain ⟨v169, e169⟩ : ∃ y : Int32, y = (x2 + (1 : Int32)) := ⟨_, rfl⟩
  have hf := nx_at e169 hf
  refine lv_iinc (v := v169) (lv' := [(2, .int v169), (0, .ref (eB E + 47)), (1, .int x1)]) hx hb dX11_findsMiddles_169 hl (k := 2) rfl (by rw [e169]; rfl) (by decide) rfl (fun ls hl => ?_)
  refine lv_goto (tgt := 56) hx hb dX11_findsMiddles_172 (by decide) ?_
  exact hk56 hf hR (lv_sub hl [1, 2, 0] rfl)
set_option maxHeartbeats 4000000 in
set_option maxRecDepth 100000 in
theorem wX11_findsMiddles_56 {M1 : Mem} {k175 : Int32 → Mem → Option Mem} (X : CX E p s m args c meth cX11_findsMiddles 5 none RX11) (hk175 : ∀ {x1 : Int32} {M : Mem} {H : Heap} {locs : List Loc} {ls : Array Slot}, k175 x1 M = some M1 → Rl E (sh_ b) (nn b) s.heap M H locs → lv_has ls 5 [(0, .ref (eB E + 47)), (1, .int x1)] → W p l e (rm 5 0 0) s m args below meth c H locs 0 0 (MQ below (qq E none (sh_ b) (nn b) M1) args s 0 0 (fr E)) (F0 m 175 ls [])) : ∀ (n : Nat) {x1 : Int32} {x2 : Int32} {M : Mem} {H : Heap} {locs : List Loc} {ls : Array Slot}, fX11_findsMiddles_56 k175 n x1 x2 M = some M1 → Rl E (sh_ b) (nn b) s.heap M H locs → lv_has ls 5 [(0, .ref (eB E + 47)), (1, .int x1), (2, .int x2)] → W p l e (rm 5 0 0) s m args below meth c H locs 0 0 (MQ below (qq E none (sh_ b) (nn b) M1) args s 0 0 (fr E)) (F0 m 56 ls []) := by
  obtain ⟨hx, hb, hr, hml, hown, hts, hK, hN, hO, hlk, hbs⟩ := id X
  intro n
  induction n with
  | zero =>
    intro x1 x2 M H locs ls hf hR hl
    exact absurd (show none = some _ from hf) (fun h => by cases h)
  | succ n ih =>
    intro x1 x2 M H locs ls hf hR hl
    rw [fX11_findsMiddles_56] at hf
    refine lv_iload_n hx hb dX11_findsMiddles_56 rfl (lv_at hl 2 rfl) ?_
    refine lv_iload_n hx hb dX11_findsMiddles_57 rfl (lv_at hl 1 rfl) ?_
    refine lv_icmp_ge (tgt := 175) hx hb dX11_findsMiddles_58 (by decide) (fun q58 => ?_) (fun q58 => ?_)
    · have hf := (br_if hf).1 q58
      exact hk175 hf hR (lv_sub hl [0, 1] rfl)
    · have hf := (br_if hf).2 q58
      refine lv_aload_n hx hb dX11_findsMiddles_61 rfl (lv_at hl 0 rfl) ?_
      refine x_get hx hb hown hts hK hR kX11 (z_47 b) (j := 24) (by decide) fl_X11_69 (v := .ref (eB E + 79)) rfl dX11_findsMiddles_62 ?_
      refine lv_iload_n hx hb dX11_findsMiddles_65 rfl (lv_at hl 1 rfl) ?_
      obtain ⟨g66, hf⟩ := br_g hf
      refine x_iald hx hb hK hR (z_79 b) g66 dX11_findsMiddles_66 ?_
      refine lv_i2l (v := (M.1 79 (ix x1)).toInt64) hx hb dX11_findsMiddles_67 rfl ?_
      refine lv_aload_n hx hb dX11_findsMiddles_68 rfl (lv_at hl 0 rfl) ?_
      refine x_get hx hb hown hts hK hR kX11 (z_47 b) (j := 25) (by decide) fl_X11_72 (v := .ref (eB E + 80)) rfl dX11_findsMiddles_69 ?_
      refine lv_iload_n hx hb dX11_findsMiddles_72 rfl (lv_at hl 2 rfl) ?_
      obtain ⟨g73, hf⟩ := br_g hf
      refine x_iald hx hb hK hR (z_80 b) g73 dX11_findsMiddles_73 ?_
      refine lv_i2l (v := (M.1 80 (ix x2)).toInt64) hx hb dX11_findsMiddles_74 rfl ?_
      refine lv_lmul hx hb dX11_findsMiddles_75 ?_
      refine lv_aload_n hx hb dX11_findsMiddles_76 rfl (lv_at hl 0 rfl) ?_
      refine x_get hx hb hown hts hK hR kX11 (z_47 b) (j := 24) (by decide) fl_X11_69 (v := .ref (eB E + 79)) rfl dX11_findsMiddles_77 ?_
      refine lv_iload_n hx hb dX11_findsMiddles_80 rfl (lv_at hl 2 rfl) ?_
      obtain ⟨g81, hf⟩ := br_g hf
      refine x_iald hx hb hK hR (z_79 b) g81 dX11_findsMiddles_81 ?_
      refine lv_i2l (v := (M.1 79 (ix x2)).toInt64) hx hb dX11_findsMiddles_82 rfl ?_
      refine lv_aload_n hx hb dX11_findsMiddles_83 rfl (lv_at hl 0 rfl) ?_
      refine x_get hx hb hown hts hK hR kX11 (z_47 b) (j := 25) (by decide) fl_X11_72 (v := .ref (eB E + 80)) rfl dX11_findsMiddles_84 ?_
      refine lv_iload_n hx hb dX11_findsMiddles_87 rfl (lv_at hl 1 rfl) ?_
      obtain ⟨g88, hf⟩ := br_g hf
      refine x_iald hx hb hK hR (z_80 b) g88 dX11_findsMiddles_88 ?_
      refine lv_i2l (v := (M.1 80 (ix x1)).toInt64) hx hb dX11_findsMiddles_89 rfl ?_
      refine lv_lmul hx hb dX11_findsMiddles_90 ?_
      refine lv_lsub hx hb dX11_findsMiddles_91 ?_
      refine lv_topl (fun v92 e92 => ?_)
      have hf := nx_at e92 hf
      refine lv_lstore_n (lv' := [(3, .long v92), (0, .ref (eB E + 47)), (1, .int x1), (2, .int x2)]) hx hb dX11_findsMiddles_92 rfl hl (by decide) rfl (fun ls hl => ?_)
      refine lv_lload_n hx hb dX11_findsMiddles_93 rfl (lv_at hl 0 rfl) ?_
      refine lv_lconst (v := 0) hx hb dX11_findsMiddles_94 (by decide) ?_
      refine W.lcmp hx hb dX11_findsMiddles_95 ?_
      refine lv_if_ne (tgt := 102) hx hb dX11_findsMiddles_96 (by decide) (fun q96 => ?_) (fun q96 => ?_)
      · have hf := (br_if hf).2 q96
        refine lv_aload_n hx hb dX11_findsMiddles_102 rfl (lv_at hl 1 rfl) ?_
        refine lv_aload_n hx hb dX11_findsMiddles_103 rfl (lv_at hl 1 rfl) ?_
        refine x_get hx hb hown hts hK hR kX11 (z_47 b) (j := 26) (by decide) fl_X11_75 (v := .ref (eB E + 81)) rfl dX11_findsMiddles_104 ?_
        refine lv_iload_n hx hb dX11_findsMiddles_107 rfl (lv_at hl 2 rfl) ?_
        obtain ⟨g108, hf⟩ := br_g hf
        refine x_iald hx hb hK hR (z_81 b) g108 dX11_findsMiddles_108 ?_
        refine lv_i2l (v := (M.1 81 (ix x1)).toInt64) hx hb dX11_findsMiddles_109 rfl ?_
        refine lv_aload_n hx hb dX11_findsMiddles_110 rfl (lv_at hl 1 rfl) ?_
        refine x_get hx hb hown hts hK hR kX11 (z_47 b) (j := 25) (by decide) fl_X11_72 (v := .ref (eB E + 80)) rfl dX11_findsMiddles_111 ?_
        refine lv_iload_n hx hb dX11_findsMiddles_114 rfl (lv_at hl 3 rfl) ?_
        obtain ⟨g115, hf⟩ := br_g hf
        refine x_iald hx hb hK hR (z_80 b) g115 dX11_findsMiddles_115 ?_
        refine lv_i2l (v := (M.1 80 (ix x2)).toInt64) hx hb dX11_findsMiddles_116 rfl ?_
        refine lv_lmul hx hb dX11_findsMiddles_117 ?_
        refine lv_aload_n hx hb dX11_findsMiddles_118 rfl (lv_at hl 1 rfl) ?_
        refine x_get hx hb hown hts hK hR kX11 (z_47 b) (j := 26) (by decide) fl_X11_75 (v := .ref (eB E + 81)) rfl dX11_findsMiddles_119 ?_
        refine lv_iload_n hx hb dX11_findsMiddles_122 rfl (lv_at hl 3 rfl) ?_
        obtain ⟨g123, hf⟩ := br_g hf
        refine x_iald hx hb hK hR (z_81 b) g123 dX11_findsMiddles_123 ?_
        refine lv_i2l (v := (M.1 81 (ix x2)).toInt64) hx hb dX11_findsMiddles_124 rfl ?_
        refine lv_aload_n hx hb dX11_findsMiddles_125 rfl (lv_at hl 1 rfl) ?_
        refine x_get hx hb hown hts hK hR kX11 (z_47 b) (j := 25) (by decide) fl_X11_72 (v := .ref (eB E + 80)) rfl dX11_findsMiddles_126 ?_
        refine lv_iload_n hx hb dX11_findsMiddles_129 rfl (lv_at hl 2 rfl) ?_
        obtain ⟨g130, hf⟩ := br_g hf
        refine x_iald hx hb hK hR (z_80 b) g130 dX11_findsMiddles_130 ?_
        refine lv_i2l (v := (M.1 80 (ix x1)).toInt64) hx hb dX11_findsMiddles_131 rfl ?_
        refine lv_lmul hx hb dX11_findsMiddles_132 ?_
        refine lv_lsub hx hb dX11_findsMiddles_133 ?_
        refine lv_aload_n hx hb dX11_findsMiddles_134 rfl (lv_at hl 1 rfl) ?_
        refine x_get hx hb hown hts hK hR kX11 (z_47 b) (j := 24) (by decide) fl_X11_69 (v := .ref (eB E + 79)) rfl dX11_findsMiddles_135 ?_
        refine lv_iload_n hx hb dX11_findsMiddles_138 rfl (lv_at hl 2 rfl) ?_
        obtain ⟨g139, hf⟩ := br_g hf
        refine x_iald hx hb hK hR (z_79 b) g139 dX11_findsMiddles_139 ?_
        refine lv_i2l (v := (M.1 79 (ix x1)).toInt64) hx hb dX11_findsMiddles_140 rfl ?_
        refine lv_aload_n hx hb dX11_findsMiddles_141 rfl (lv_at hl 1 rfl) ?_
        refine x_get hx hb hown hts hK hR kX11 (z_47 b) (j := 26) (by decide) fl_X11_75 (v := .ref (eB E + 81)) rfl dX11_findsMiddles_142 ?_
        refine lv_iload_n hx hb dX11_findsMiddles_145 rfl (lv_at hl 3 rfl) ?_
        obtain ⟨g146, hf⟩ := br_g hf
        refine x_iald hx hb hK hR (z_81 b) g146 dX11_findsMiddles_146 ?_
        refine lv_i2l (v := (M.1 81 (ix x2)).toInt64) hx hb dX11_findsMiddles_147 rfl ?_
        refine lv_lmul hx hb dX11_findsMiddles_148 ?_
        refine lv_aload_n hx hb dX11_findsMiddles_149 rfl (lv_at hl 1 rfl) ?_
        refine x_get hx hb hown hts hK hR kX11 (z_47 b) (j := 24) (by decide) fl_X11_69 (v := .ref (eB E + 79)) rfl dX11_findsMiddles_150 ?_
        refine lv_iload_n hx hb dX11_findsMiddles_153 rfl (lv_at hl 3 rfl) ?_
        obtain ⟨g154, hf⟩ := br_g hf
        refine x_iald hx hb hK hR (z_79 b) g154 dX11_findsMiddles_154 ?_
        refine lv_i2l (v := (M.1 79 (ix x2)).toInt64) hx hb dX11_findsMiddles_155 rfl ?_
        refine lv_aload_n hx hb dX11_findsMiddles_156 rfl (lv_at hl 1 rfl) ?_
        refine x_get hx hb hown hts hK hR kX11 (z_47 b) (j := 26) (by decide) fl_X11_75 (v := .ref (eB E + 81)) rfl dX11_findsMiddles_157 ?_
        refine lv_iload_n hx hb dX11_findsMiddles_160 rfl (lv_at hl 2 rfl) ?_
        obtain ⟨g161, hf⟩ := br_g hf
        refine x_iald hx hb hK hR (z_81 b) g161 dX11_findsMiddles_161 ?_
        refine lv_i2l (v := (M.1 81 (ix x1)).toInt64) hx hb dX11_findsMiddles_162 rfl ?_
        refine lv_lmul hx hb dX11_findsMiddles_163 ?_
        refine lv_lsub hx hb dX11_findsMiddles_164 ?_
        refine lv_lload_n hx hb dX11_findsMiddles_165 rfl (lv_at hl 0 rfl) ?_
        obtain ⟨q166, c166, hf⟩ := br_b hf
        refine x_callV (k := 47) (As := [.long (((M.1 81 (ix x1)).toInt64 * (M.1 80 (ix x2)).toInt64) - ((M.1 81 (ix x2)).toInt64 * (M.1 80 (ix x1)).toInt64)), .long (((M.1 79 (ix x1)).toInt64 * (M.1 81 (ix x2)).toInt64) - ((M.1 79 (ix x2)).toInt64 * (M.1 81 (ix x1)).toInt64)), .long v92]) (rest := []) (st1 := []) X hR (ctX11_addsMiddle c166) ml_X11_327 im_X11_addsMiddle se_X11_addsMiddle in_X11 co_X11_addsMiddle yo_X11_addsMiddle rfl kX11 (z_47 b) (rm_ok (by decide) (by decide)) rfl hl.1 rfl rfl (Nat.le_of_ble_eq_true rfl) dX11_findsMiddles_166 ⟨Nat.zero_le _, Nat.zero_le _⟩ (fun H locs hR => ?_)
        exact wX11_findsMiddles_169 X (fun hf hR hl => ih hf hR hl) (fun hf hR hl => hk175 hf hR hl) hf hR (lv_sub hl [1, 2, 3] rfl)
      · have hf := (br_if hf).1 q96
        refine lv_goto (tgt := 169) hx hb dX11_findsMiddles_99 (by decide) ?_
        exact wX11_findsMiddles_169 X (fun hf hR hl => ih hf hR hl) (fun hf hR hl => hk175 hf hR hl) hf hR (lv_sub hl [1, 2, 3] rfl)
set_option maxHeartbeats 4000000 in
set_option maxRecDepth 100000 in
theorem wX11_findsMiddles_175 {M1 : Mem} {k46 : Int32 → Mem → Option Mem} {k181 : Mem → Option Mem} (X : CX E p s m args c meth cX11_findsMiddles 5 none RX11) (hk46 : ∀ {x1 : Int32} {M : Mem} {H : Heap} {locs : List Loc} {ls : Array Slot}, k46 x1 M = some M1 → Rl E (sh_ b) (nn b) s.heap M H locs → lv_has ls 5 [(0, .ref (eB E + 47)), (1, .int x1)] → W p l e (rm 5 0 0) s m args below meth c H locs 0 0 (MQ below (qq E none (sh_ b) (nn b) M1) args s 0 0 (fr E)) (F0 m 46 ls [])) (hk181 : ∀ {M : Mem} {H : Heap} {locs : List Loc} {ls : Array Slot}, k181 M = some M1 → Rl E (sh_ b) (nn b) s.heap M H locs → lv_has ls 5 [] → W p l e (rm 5 0 0) s m args below meth c H locs 0 0 (MQ below (qq E none (sh_ b) (nn b) M1) args s 0 0 (fr E)) (F0 m 181 ls [])) : ∀ {x1 : Int32} {M : Mem} {H : Heap} {locs : List Loc} {ls : Array Slot}, fX11_findsMiddles_175 k46 k181 x1 M = some M1 → Rl E (sh_ b) (nn b) s.heap M H locs → lv_has ls 5 [(0, .ref (eB E + 47)), (1, .int x1)] → W p l e (rm 5 0 0) s m args below meth c H locs 0 0 (MQ below (qq E none (sh_ b) (nn b) M1) args s 0 0 (fr E)) (F0 m 175 ls []) := by
  obtain ⟨hx, hb, hr, hml, hown, hts, hK, hN, hO, hlk, hbs⟩ := id X
  intro x1 M H locs ls hf hR hl
  unfold fX11_findsMiddles_175 at hf
  obtain ⟨v175, e175⟩ : ∃ y : Int32, y = (x1 + (1 : Int32)) := ⟨_, rfl⟩
  have hf := nx_at e175 hf
  refine lv_iinc (v := v175) (lv' := [(1, .int v175), (0, .ref (eB E + 47))]) hx hb dX11_findsMiddles_175 hl (k := 1) rfl (by rw [e175]; rfl) (by decide) rfl (fun ls hl => ?_)
  refine lv_goto (tgt := 46) hx hb dX11_findsMiddles_178 (by decide) ?_
  exact hk46 hf hR (lv_sub hl [1, 0] rfl)
set_option maxHeartbeats 4000000 in
set_option maxRecDepth 100000 in
theorem wX11_findsMiddles_46 {M1 : Mem} {k181 : Mem → Option Mem} (X : CX E p s m args c meth cX11_findsMiddles 5 none RX11) (hk181 : ∀ {M : Mem} {H : Heap} {locs : List Loc} {ls : Array Slot}, k181 M = some M1 → Rl E (sh_ b) (nn b) s.heap M H locs → lv_has ls 5 [] → W p l e (rm 5 0 0) s m args below meth c H locs 0 0 (MQ below (qq E none (sh_ b) (nn b) M1) args s 0 0 (fr E)) (F0 m 181 ls [])) : ∀ (n : Nat) {x1 : Int32} {M : Mem} {H : Heap} {locs : List Loc} {ls : Array Slot}, fX11_findsMiddles_46 k181 n x1 M = some M1 → Rl E (sh_ b) (nn b) s.heap M H locs → lv_has ls 5 [(0, .ref (eB E + 47)), (1, .int x1)] → W p l e (rm 5 0 0) s m args below meth c H locs 0 0 (MQ below (qq E none (sh_ b) (nn b) M1) args s 0 0 (fr E)) (F0 m 46 ls []) := by
  obtain ⟨hx, hb, hr, hml, hown, hts, hK, hN, hO, hlk, hbs⟩ := id X
  intro n
  induction n with
  | zero =>
    intro x1 M H locs ls hf hR hl
    exact absurd (show none = some _ from hf) (fun h => by cases h)
  | succ n ih =>
    intro x1 M H locs ls hf hR hl
    rw [fX11_findsMiddles_46] at hf
    refine lv_iload_n hx hb dX11_findsMiddles_46 rfl (lv_at hl 1 rfl) ?_
    refine lv_aload_n hx hb dX11_findsMiddles_47 rfl (lv_at hl 0 rfl) ?_
    refine x_get hx hb hown hts hK hR kX11 (z_47 b) (j := 27) (by decide) fl_X11_288 (v := .int (M.1 47 27)) rfl dX11_findsMiddles_48 ?_
    refine lv_icmp_ge (tgt := 181) hx hb dX11_findsMiddles_51 (by decide) (fun q51 => ?_) (fun q51 => ?_)
    · have hf := (br_if hf).1 q51
      exact hk181 hf hR (lv_sub hl [] rfl)
    · have hf := (br_if hf).2 q51
      refine lv_iconst (v := 0) hx hb dX11_findsMiddles_54 (by decide) ?_
      refine lv_istore_n (lv' := [(2, .int (0 : Int32)), (0, .ref (eB E + 47)), (1, .int x1)]) hx hb dX11_findsMiddles_55 rfl hl (by decide) rfl (fun ls hl => ?_)
      exact wX11_findsMiddles_56 X (fun hf hR hl => wX11_findsMiddles_175 X (fun hf hR hl => ih hf hR hl) (fun hf hR hl => hk181 hf hR hl) hf hR hl) FU hf hR (lv_sub hl [1, 2, 0] rfl)
set_option maxHeartbeats 4000000 in
set_option maxRecDepth 100000 in
theorem wX11_findsMiddles_181 {M1 : Mem} (X : CX E p s m args c meth cX11_findsMiddles 5 none RX11) : ∀ {M : Mem} {H : Heap} {locs : List Loc} {ls : Array Slot}, fX11_findsMiddles_181 M = some M1 → Rl E (sh_ b) (nn b) s.heap M H locs → lv_has ls 5 [] → W p l e (rm 5 0 0) s m args below meth c H locs 0 0 (MQ below (qq E none (sh_ b) (nn b) M1) args s 0 0 (fr E)) (F0 m 181 ls []) := by
  obtain ⟨hx, hb, hr, hml, hown, hts, hK, hN, hO, hlk, hbs⟩ := id X
  intro M H locs ls hf hR hl
  unfold fX11_findsMiddles_181 at hf
  cases hf
  exact x_vret hx hb hr hlk hR dX11_findsMiddles_181
set_option maxHeartbeats 4000000 in
set_option maxRecDepth 100000 in
theorem wX11_findsMiddles_44 {M1 : Mem} (X : CX E p s m args c meth cX11_findsMiddles 5 none RX11) : ∀ {M : Mem} {H : Heap} {locs : List Loc} {ls : Array Slot}, fX11_findsMiddles_44 M = some M1 → Rl E (sh_ b) (nn b) s.heap M H locs → lv_has ls 5 [(0, .ref (eB E + 47))] → W p l e (rm 5 0 0) s m args below meth c H locs 0 0 (MQ below (qq E none (sh_ b) (nn b) M1) args s 0 0 (fr E)) (F0 m 44 ls []) := by
  obtain ⟨hx, hb, hr, hml, hown, hts, hK, hN, hO, hlk, hbs⟩ := id X
  intro M H locs ls hf hR hl
  unfold fX11_findsMiddles_44 at hf
  refine lv_iconst (v := 0) hx hb dX11_findsMiddles_44 (by decide) ?_
  refine lv_istore_n (lv' := [(1, .int (0 : Int32)), (0, .ref (eB E + 47))]) hx hb dX11_findsMiddles_45 rfl hl (by decide) rfl (fun ls hl => ?_)
  exact wX11_findsMiddles_46 X (fun hf hR hl => wX11_findsMiddles_181 X hf hR hl) FU hf hR (lv_sub hl [1, 0] rfl)
set_option maxHeartbeats 4000000 in
set_option maxRecDepth 100000 in
theorem wX11_findsMiddles_0 {M1 : Mem} (X : CX E p s m args c meth cX11_findsMiddles 5 none RX11) : ∀ {M : Mem} {H : Heap} {locs : List Loc} {ls : Array Slot}, fX11_findsMiddles M = some M1 → Rl E (sh_ b) (nn b) s.heap M H locs → lv_has ls 5 [(0, .ref (eB E + 47))] → W p l e (rm 5 0 0) s m args below meth c H locs 0 0 (MQ below (qq E none (sh_ b) (nn b) M1) args s 0 0 (fr E)) (F0 m 0 ls []) := by
  obtain ⟨hx, hb, hr, hml, hown, hts, hK, hN, hO, hlk, hbs⟩ := id X
  intro M H locs ls hf hR hl
  unfold fX11_findsMiddles at hf
  refine lv_aload_n hx hb dX11_findsMiddles_0 rfl (lv_at hl 0 rfl) ?_
  refine lv_iconst (v := 0) hx hb dX11_findsMiddles_1 (by decide) ?_
  refine x_puti hx hb hown hts hK hR kX11 (z_47 b) (j := 28) (by decide) fl_X11_317 rfl rfl rfl rfl dX11_findsMiddles_2 (fun H locs hR => ?_)
  obtain ⟨M2, e2⟩ : ∃ y : Mem, y = (sI M 47 28 (0 : Int32)) := ⟨_, rfl⟩
  have hf := nx_at e2 hf
  have hR : Rl E (sh_ b) (nn b) s.heap M2 H locs := by rw [e2]; exact hR
  refine lv_iconst (v := 0) hx hb dX11_findsMiddles_5 (by decide) ?_
  refine lv_istore_n (lv' := [(1, .int (0 : Int32)), (0, .ref (eB E + 47))]) hx hb dX11_findsMiddles_6 rfl hl (by decide) rfl (fun ls hl => ?_)
  exact wX11_findsMiddles_7 X (fun hf hR hl => wX11_findsMiddles_44 X hf hR hl) FU hf hR (lv_sub hl [1, 0] rfl)
theorem ctX11_findsMiddles {l : Launch} {E : Ge} {b : Bool} {M : Mem} {M1 : Mem} (h : fX11_findsMiddles M = some M1) : CT l E yX11_findsMiddles cX11_findsMiddles 5 none 5 0 0 [.ref (eB E + 47)] none (sh_ b) (nn b) M (sh_ b) (nn b) M1 := by
  refine met_of (by decide) (Nat.le_of_ble_eq_true rfl) ?_
  intro p e s m args below meth c X _ hR ls hl
  exact wX11_findsMiddles_0 X h hR hl
def fX11_halves_88 (M : Mem) (k9 : Int32 → Int32 → Int32 → Int32 → Int32 → Int32 → Option Int32) (k97 : Int32 → Int32 → Option Int32) (x1 : Int32) (x2 : Int32) (x3 : Int32) (x4 : Int32) (x6 : Int32) (s0 : Int32) (s1 : Int32) : Option Int32 := nx (s0 + s1) (fun v89 => nx (x6 + (1 : Int32)) (fun v91 => k9 x1 x2 x3 x4 v89 v91))
def fX11_halves_64 (M : Mem) (k9 : Int32 → Int32 → Int32 → Int32 → Int32 → Int32 → Option Int32) (k97 : Int32 → Int32 → Option Int32) (x1 : Int32) (x2 : Int32) (x3 : Int32) (x5 : Int32) (x6 : Int32) (x7 : Int32) (s0 : Int32) (s1 : Int32) : Option Int32 := nx (s0 + s1) (fun v65 => (if x3 ≤ x7 then fX11_halves_88 M k9 k97 x1 x2 x3 v65 x6 x5 (0 : Int32) else (if inb x6 15 = true then fX11_halves_88 M k9 k97 x1 x2 x3 v65 x6 x5 ((M.1 56 (ix x6))) else none)))
def fX11_halves_9 (M : Mem) (k97 : Int32 → Int32 → Option Int32) : Nat → Int32 → Int32 → Int32 → Int32 → Int32 → Int32 → Option Int32
  | 0, _, _, _, _, _, _ => none
  | n + 1, x1, x2, x3, x4, x5, x6 => (fX11_voters M).bind (fun q12 => (if q12 ≤ x6 then k97 x4 x5 else (if inb x6 15 = true then (if inb x6 15 = true then nx ((x1 * (M.1 50 (ix x6))) + (x2 * (M.1 53 (ix x6)))) (fun v41 => (if v41 ≤ x3 then fX11_halves_64 M (fX11_halves_9 M k97 n) k97 x1 x2 x3 x5 x6 v41 x4 (0 : Int32) else (if inb x6 15 = true then fX11_halves_64 M (fX11_halves_9 M k97 n) k97 x1 x2 x3 x5 x6 v41 x4 ((M.1 56 (ix x6))) else none))) else none) else none)))
def fX11_halves_124 (M : Mem) (s0 : Int32) : Option Int32 := some (s0 &&& 1)
def fX11_halves_123 (M : Mem) : Option Int32 := fX11_halves_124 M (0 : Int32)
def fX11_halves_97 (M : Mem) (x4 : Int32) (x5 : Int32) : Option Int32 := (fX11_total M).bind (fun q102 => (if q102 < ((2 : Int32) * x4) then fX11_halves_123 M else (fX11_total M).bind (fun q113 => (if q113 < ((2 : Int32) * x5) then fX11_halves_123 M else fX11_halves_124 M (1 : Int32)))))
def fX11_halves (M : Mem) (x1 : Int32) (x2 : Int32) (x3 : Int32) : Option Int32 := fX11_halves_9 M (fX11_halves_97 M) FU x1 x2 x3 (0 : Int32) (0 : Int32) (0 : Int32)
set_option maxHeartbeats 4000000 in
set_option maxRecDepth 100000 in
theorem wX11_halves_88 {r : Int32} {M : Mem} {k9 : Int32 → Int32 → Int32 → Int32 → Int32 → Int32 → Option Int32} {k97 : Int32 → Int32 → Option Int32} (X : CX E p s m args c meth cX11_halves 8 (some .boolean) RX11) (hk9 : ∀ {x1 : Int32} {x2 : Int32} {x3 : Int32} {x4 : Int32} {x5 : Int32} {x6 : Int32} {H : Heap} {locs : List Loc} {ls : Array Slot}, k9 x1 x2 x3 x4 x5 x6 = some r → Rl E (sh_ b) (nn b) s.heap M H locs → lv_has ls 8 [(0, .ref (eB E + 47)), (1, .int x1), (2, .int x2), (3, .int x3), (4, .int x4), (5, .int x5), (6, .int x6)] → W p l e (rm 3 0 0) s m args below meth c H locs 0 0 (MQ below (qq E (some (.int r)) (sh_ b) (nn b) M) args s 0 0 (fr E)) (F0 m 9 ls [])) (hk97 : ∀ {x4 : Int32} {x5 : Int32} {H : Heap} {locs : List Loc} {ls : Array Slot}, k97 x4 x5 = some r → Rl E (sh_ b) (nn b) s.heap M H locs → lv_has ls 8 [(0, .ref (eB E + 47)), (4, .int x4), (5, .int x5)] → W p l e (rm 3 0 0) s m args below meth c H locs 0 0 (MQ below (qq E (some (.int r)) (sh_ b) (nn b) M) args s 0 0 (fr E)) (F0 m 97 ls [])) : ∀ {x1 : Int32} {x2 : Int32} {x3 : Int32} {x4 : Int32} {x6 : Int32} {s0 : Int32} {s1 : Int32} {H : Heap} {locs : List Loc} {ls : Array Slot}, fX11_halves_88 M k9 k97 x1 x2 x3 x4 x6 s0 s1 = some r → Rl E (sh_ b) (nn b) s.heap M H locs → lv_has ls 8 [(0, .ref (eB E + 47)), (1, .int x1), (2, .int x2), (3, .int x3), (4, .int x4), (6, .int x6)] → W p l e (rm 3 0 0) s m args below meth c H locs 0 0 (MQ below (qq E (some (.int r)) (sh_ b) (nn b) M) args s 0 0 (fr E)) (F0 m 88 ls [.int s1, .int s0]) := by
  obtain ⟨hx, hb, hr, hml, hown, hts, hK, hN, hO, hlk, hbs⟩ := id X
  intro x1 x2 x3 x4 x6 s0 s1 H locs ls hf hR hl
  unfold fX11_halves_88 at hf
  refine lv_iadd hx hb dX11_halves_88 ?_
  refine lv_topi (fun v89 e89 => ?_)
  have hf := nx_at e89 hf
  refine lv_istore (lv' := [(5, .int v89), (0, .ref (eB E + 47)), (1, .int x1), (2, .int x2), (3, .int x3), (4, .int x4), (6, .int x6)]) hx hb dX11_halves_89 hl (by decide) rfl (fun ls hl => ?_)
  obtain ⟨v91, e91⟩ : ∃ y : Int32, y = (x6 + (1 : Int32)) := ⟨_, rfl⟩
  have hf := nx_at e91 hf
  refine lv_iinc (v := v91) (lv' := [(6, .int v91), (5, .int v89), (0, .ref (eB E + 47)), (1, .int x1), (2, .int x2), (3, .int x3), (4, .int x4)]) hx hb dX11_halves_91 hl (k := 6) rfl (by rw [e91]; rfl) (by decide) rfl (fun ls hl => ?_)
  refine lv_goto (tgt := 9) hx hb dX11_halves_94 (by decide) ?_
  exact hk9 hf hR (lv_sub hl [2, 3, 4, 5, 6, 1, 0] rfl)
set_option maxHeartbeats 4000000 in
set_option maxRecDepth 100000 in
theorem wX11_halves_64 {r : Int32} {M : Mem} {k9 : Int32 → Int32 → Int32 → Int32 → Int32 → Int32 → Option Int32} {k97 : Int32 → Int32 → Option Int32} (X : CX E p s m args c meth cX11_halves 8 (some .boolean) RX11) (hk9 : ∀ {x1 : Int32} {x2 : Int32} {x3 : Int32} {x4 : Int32} {x5 : Int32} {x6 : Int32} {H : Heap} {locs : List Loc} {ls : Array Slot}, k9 x1 x2 x3 x4 x5 x6 = some r → Rl E (sh_ b) (nn b) s.heap M H locs → lv_has ls 8 [(0, .ref (eB E + 47)), (1, .int x1), (2, .int x2), (3, .int x3), (4, .int x4), (5, .int x5), (6, .int x6)] → W p l e (rm 3 0 0) s m args below meth c H locs 0 0 (MQ below (qq E (some (.int r)) (sh_ b) (nn b) M) args s 0 0 (fr E)) (F0 m 9 ls [])) (hk97 : ∀ {x4 : Int32} {x5 : Int32} {H : Heap} {locs : List Loc} {ls : Array Slot}, k97 x4 x5 = some r → Rl E (sh_ b) (nn b) s.heap M H locs → lv_has ls 8 [(0, .ref (eB E + 47)), (4, .int x4), (5, .int x5)] → W p l e (rm 3 0 0) s m args below meth c H locs 0 0 (MQ below (qq E (some (.int r)) (sh_ b) (nn b) M) args s 0 0 (fr E)) (F0 m 97 ls [])) : ∀ {x1 : Int32} {x2 : Int32} {x3 : Int32} {x5 : Int32} {x6 : Int32} {x7 : Int32} {s0 : Int32} {s1 : Int32} {H : Heap} {locs : List Loc} {ls : Array Slot}, fX11_halves_64 M k9 k97 x1 x2 x3 x5 x6 x7 s0 s1 = some r → Rl E (sh_ b) (nn b) s.heap M H locs → lv_has ls 8 [(0, .ref (eB E + 47)), (1, .int x1), (2, .int x2), (3, .int x3), (5, .int x5), (6, .int x6), (7, .int x7)] → W p l e (rm 3 0 0) s m args below meth c H locs 0 0 (MQ below (qq E (some (.int r)) (sh_ b) (nn b) M) args s 0 0 (fr E)) (F0 m 64 ls [.int s1, .int s0]) := by
  obtain ⟨hx, hb, hr, hml, hown, hts, hK, hN, hO, hlk, hbs⟩ := id X
  intro x1 x2 x3 x5 x6 x7 s0 s1 H locs ls hf hR hl
  unfold fX11_halves_64 at hf
  refine lv_iadd hx hb dX11_halves_64 ?_
  refine lv_topi (fun v65 e65 => ?_)
  have hf := nx_at e65 hf
  refine lv_istore (lv' := [(4, .int v65), (0, .ref (eB E + 47)), (1, .int x1), (2, .int x2), (3, .int x3), (5, .int x5), (6, .int x6), (7, .int x7)]) hx hb dX11_halves_65 hl (by decide) rfl (fun ls hl => ?_)
  refine lv_iload hx hb dX11_halves_67 (lv_at hl 5 rfl) ?_
  refine lv_iload hx hb dX11_halves_69 (lv_at hl 7 rfl) ?_
  refine lv_iload_n hx hb dX11_halves_71 rfl (lv_at hl 4 rfl) ?_
  refine lv_icmp_ge (tgt := 87) hx hb dX11_halves_72 (by decide) (fun q72 => ?_) (fun q72 => ?_)
  · have hf := (br_if hf).1 q72
    refine lv_iconst (v := 0) hx hb dX11_halves_87 (by decide) ?_
    exact wX11_halves_88 X (fun hf hR hl => hk9 hf hR hl) (fun hf hR hl => hk97 hf hR hl) hf hR (lv_sub hl [1, 2, 3, 4, 0, 6] rfl)
  · have hf := (br_if hf).2 q72
    refine lv_aload_n hx hb dX11_halves_75 rfl (lv_at hl 1 rfl) ?_
    refine x_get hx hb hown hts hK hR kX11 (z_47 b) (j := 8) (by decide) fl_X11_21 (v := .ref (eB E + 55)) rfl dX11_halves_76 ?_
    refine lv_iconst (v := 0) hx hb dX11_halves_79 (by decide) ?_
    refine x_aald5 hx hb hK hR (z_55 b) (by decide) (r := 56) rfl dX11_halves_80 ?_
    refine lv_iload hx hb dX11_halves_81 (lv_at hl 6 rfl) ?_
    obtain ⟨g83, hf⟩ := br_g hf
    refine x_iald hx hb hK hR (z_56 b) g83 dX11_halves_83 ?_
    refine lv_goto (tgt := 88) hx hb dX11_halves_84 (by decide) ?_
    exact wX11_halves_88 X (fun hf hR hl => hk9 hf hR hl) (fun hf hR hl => hk97 hf hR hl) hf hR (lv_sub hl [1, 2, 3, 4, 0, 6] rfl)
set_option maxHeartbeats 4000000 in
set_option maxRecDepth 100000 in
theorem wX11_halves_9 {r : Int32} {M : Mem} {k97 : Int32 → Int32 → Option Int32} (X : CX E p s m args c meth cX11_halves 8 (some .boolean) RX11) (hk97 : ∀ {x4 : Int32} {x5 : Int32} {H : Heap} {locs : List Loc} {ls : Array Slot}, k97 x4 x5 = some r → Rl E (sh_ b) (nn b) s.heap M H locs → lv_has ls 8 [(0, .ref (eB E + 47)), (4, .int x4), (5, .int x5)] → W p l e (rm 3 0 0) s m args below meth c H locs 0 0 (MQ below (qq E (some (.int r)) (sh_ b) (nn b) M) args s 0 0 (fr E)) (F0 m 97 ls [])) : ∀ (n : Nat) {x1 : Int32} {x2 : Int32} {x3 : Int32} {x4 : Int32} {x5 : Int32} {x6 : Int32} {H : Heap} {locs : List Loc} {ls : Array Slot}, fX11_halves_9 M k97 n x1 x2 x3 x4 x5 x6 = some r → Rl E (sh_ b) (nn b) s.heap M H locs → lv_has ls 8 [(0, .ref (eB E + 47)), (1, .int x1), (2, .int x2), (3, .int x3), (4, .int x4), (5, .int x5), (6, .int x6)] → W p l e (rm 3 0 0) s m args below meth c H locs 0 0 (MQ below (qq E (some (.int r)) (sh_ b) (nn b) M) args s 0 0 (fr E)) (F0 m 9 ls []) := by
  obtain ⟨hx, hb, hr, hml, hown, hts, hK, hN, hO, hlk, hbs⟩ := id X
  intro n
  induction n with
  | zero =>
    intro x1 x2 x3 x4 x5 x6 H locs ls hf hR hl
    exact absurd (show none = some _ from hf) (fun h => by cases h)
  | succ n ih =>
    intro x1 x2 x3 x4 x5 x6 H locs ls hf hR hl
    rw [fX11_halves_9] at hf
    refine lv_iload hx hb dX11_halves_9 (lv_at hl 6 rfl) ?_
    refine lv_aload_n hx hb dX11_halves_11 rfl (lv_at hl 0 rfl) ?_
    obtain ⟨q12, c12, hf⟩ := br_b hf
    refine x_callV (k := 47) (As := []) (rest := [.int x6]) (st1 := [.int q12, .int x6]) X hR (ctX11_voters c12) ml_X11_237 im_X11_voters se_X11_voters in_X11 co_X11_voters yo_X11_voters rfl kX11 (z_47 b) (rm_ok (by decide) (by decide)) rfl hl.1 rfl rfl (Nat.le_of_ble_eq_true rfl) dX11_halves_12 ⟨Nat.zero_le _, Nat.zero_le _⟩ (fun H locs hR => ?_)
    refine lv_icmp_ge (tgt := 97) hx hb dX11_halves_15 (by decide) (fun q15 => ?_) (fun q15 => ?_)
    · have hf := (br_if hf).1 q15
      exact hk97 hf hR (lv_sub hl [0, 4, 5] rfl)
    · have hf := (br_if hf).2 q15
      refine lv_iload_n hx hb dX11_halves_18 rfl (lv_at hl 1 rfl) ?_
      refine lv_aload_n hx hb dX11_halves_19 rfl (lv_at hl 0 rfl) ?_
      refine x_get hx hb hown hts hK hR kX11 (z_47 b) (j := 6) (by decide) fl_X11_15 (v := .ref (eB E + 49)) rfl dX11_halves_20 ?_
      refine lv_iconst (v := 0) hx hb dX11_halves_23 (by decide) ?_
      refine x_aald5 hx hb hK hR (z_49 b) (by decide) (r := 50) rfl dX11_halves_24 ?_
      refine lv_iload hx hb dX11_halves_25 (lv_at hl 6 rfl) ?_
      obtain ⟨g27, hf⟩ := br_g hf
      refine x_iald hx hb hK hR (z_50 b) g27 dX11_halves_27 ?_
      refine lv_imul hx hb dX11_halves_28 ?_
      refine lv_iload_n hx hb dX11_halves_29 rfl (lv_at hl 2 rfl) ?_
      refine lv_aload_n hx hb dX11_halves_30 rfl (lv_at hl 0 rfl) ?_
      refine x_get hx hb hown hts hK hR kX11 (z_47 b) (j := 7) (by decide) fl_X11_18 (v := .ref (eB E + 52)) rfl dX11_halves_31 ?_
      refine lv_iconst (v := 0) hx hb dX11_halves_34 (by decide) ?_
      refine x_aald5 hx hb hK hR (z_52 b) (by decide) (r := 53) rfl dX11_halves_35 ?_
      refine lv_iload hx hb dX11_halves_36 (lv_at hl 6 rfl) ?_
      obtain ⟨g38, hf⟩ := br_g hf
      refine x_iald hx hb hK hR (z_53 b) g38 dX11_halves_38 ?_
      refine lv_imul hx hb dX11_halves_39 ?_
      refine lv_iadd hx hb dX11_halves_40 ?_
      refine lv_topi (fun v41 e41 => ?_)
      have hf := nx_at e41 hf
      refine lv_istore (lv' := [(7, .int v41), (0, .ref (eB E + 47)), (1, .int x1), (2, .int x2), (3, .int x3), (4, .int x4), (5, .int x5), (6, .int x6)]) hx hb dX11_halves_41 hl (by decide) rfl (fun ls hl => ?_)
      refine lv_iload hx hb dX11_halves_43 (lv_at hl 5 rfl) ?_
      refine lv_iload hx hb dX11_halves_45 (lv_at hl 0 rfl) ?_
      refine lv_iload_n hx hb dX11_halves_47 rfl (lv_at hl 4 rfl) ?_
      refine lv_icmp_le (tgt := 63) hx hb dX11_halves_48 (by decide) (fun q48 => ?_) (fun q48 => ?_)
      · have hf := (br_if hf).1 q48
        refine lv_iconst (v := 0) hx hb dX11_halves_63 (by decide) ?_
        exact wX11_halves_64 X (fun hf hR hl => ih hf hR hl) (fun hf hR hl => hk97 hf hR hl) hf hR (lv_sub hl [1, 2, 3, 4, 6, 7, 0] rfl)
      · have hf := (br_if hf).2 q48
        refine lv_aload_n hx hb dX11_halves_51 rfl (lv_at hl 1 rfl) ?_
        refine x_get hx hb hown hts hK hR kX11 (z_47 b) (j := 8) (by decide) fl_X11_21 (v := .ref (eB E + 55)) rfl dX11_halves_52 ?_
        refine lv_iconst (v := 0) hx hb dX11_halves_55 (by decide) ?_
        refine x_aald5 hx hb hK hR (z_55 b) (by decide) (r := 56) rfl dX11_halves_56 ?_
        refine lv_iload hx hb dX11_halves_57 (lv_at hl 7 rfl) ?_
        obtain ⟨g59, hf⟩ := br_g hf
        refine x_iald hx hb hK hR (z_56 b) g59 dX11_halves_59 ?_
        refine lv_goto (tgt := 64) hx hb dX11_halves_60 (by decide) ?_
        exact wX11_halves_64 X (fun hf hR hl => ih hf hR hl) (fun hf hR hl => hk97 hf hR hl) hf hR (lv_sub hl [1, 2, 3, 4, 6, 7, 0] rfl)
set_option maxHeartbeats 4000000 in
set_option maxRecDepth 100000 in
theorem wX11_halves_124 {r : Int32} {M : Mem} (X : CX E p s m args c meth cX11_halves 8 (some .boolean) RX11) : ∀ {s0 : Int32} {H : Heap} {locs : List Loc} {ls : Array Slot}, fX11_halves_124 M s0 = some r → Rl E (sh_ b) (nn b) s.heap M H locs → lv_has ls 8 [] → W p l e (rm 3 0 0) s m args below meth c H locs 0 0 (MQ below (qq E (some (.int r)) (sh_ b) (nn b) M) args s 0 0 (fr E)) (F0 m 124 ls [.int s0]) := by
  obtain ⟨hx, hb, hr, hml, hown, hts, hK, hN, hO, hlk, hbs⟩ := id X
  intro s0 H locs ls hf hR hl
  unfold fX11_halves_124 at hf
  cases hf
  exact x_zret hx hb hr hlk hR rfl dX11_halves_124
set_option maxHeartbeats 4000000 in
set_option maxRecDepth 100000 in
theorem wX11_halves_123 {r : Int32} {M : Mem} (X : CX E p s m args c meth cX11_halves 8 (some .boolean) RX11) : ∀ {H : Heap} {locs : List Loc} {ls : Array Slot}, fX11_halves_123 M = some r → Rl E (sh_ b) (nn b) s.heap M H locs → lv_has ls 8 [] → W p l e (rm 3 0 0) s m args below meth c H locs 0 0 (MQ below (qq E (some (.int r)) (sh_ b) (nn b) M) args s 0 0 (fr E)) (F0 m 123 ls []) := by
  obtain ⟨hx, hb, hr, hml, hown, hts, hK, hN, hO, hlk, hbs⟩ := id X
  intro H locs ls hf hR hl
  unfold fX11_halves_123 at hf
  refine lv_iconst (v := 0) hx hb dX11_halves_123 (by decide) ?_
  exact wX11_halves_124 X hf hR hl
set_option maxHeartbeats 4000000 in
set_option maxRecDepth 100000 in
theorem wX11_halves_97 {r : Int32} {M : Mem} (X : CX E p s m args c meth cX11_halves 8 (some .boolean) RX11) : ∀ {x4 : Int32} {x5 : Int32} {H : Heap} {locs : List Loc} {ls : Array Slot}, fX11_halves_97 M x4 x5 = some r → Rl E (sh_ b) (nn b) s.heap M H locs → lv_has ls 8 [(0, .ref (eB E + 47)), (4, .int x4), (5, .int x5)] → W p l e (rm 3 0 0) s m args below meth c H locs 0 0 (MQ below (qq E (some (.int r)) (sh_ b) (nn b) M) args s 0 0 (fr E)) (F0 m 97 ls []) := by
  obtain ⟨hx, hb, hr, hml, hown, hts, hK, hN, hO, hlk, hbs⟩ := id X
  intro x4 x5 H locs ls hf hR hl
  unfold fX11_halves_97 at hf
  refine lv_iconst (v := 2) hx hb dX11_halves_97 (by decide) ?_
  refine lv_iload hx hb dX11_halves_98 (lv_at hl 1 rfl) ?_
  refine lv_imul hx hb dX11_halves_100 ?_
  refine lv_aload_n hx hb dX11_halves_101 rfl (lv_at hl 0 rfl) ?_
  obtain ⟨q102, c102, hf⟩ := br_b hf
  refine x_callV (k := 47) (As := []) (rest := [.int ((2 : Int32) * x4)]) (st1 := [.int q102, .int ((2 : Int32) * x4)]) X hR (ctX11_total c102) ml_X11_266 im_X11_total se_X11_total in_X11 co_X11_total yo_X11_total rfl kX11 (z_47 b) (rm_ok (by decide) (by decide)) rfl hl.1 rfl rfl (Nat.le_of_ble_eq_true rfl) dX11_halves_102 ⟨Nat.zero_le _, Nat.zero_le _⟩ (fun H locs hR => ?_)
  refine lv_icmp_gt (tgt := 123) hx hb dX11_halves_105 (by decide) (fun q105 => ?_) (fun q105 => ?_)
  · have hf := (br_if hf).1 q105
    exact wX11_halves_123 X hf hR (lv_sub hl [] rfl)
  · have hf := (br_if hf).2 q105
    refine lv_iconst (v := 2) hx hb dX11_halves_108 (by decide) ?_
    refine lv_iload hx hb dX11_halves_109 (lv_at hl 2 rfl) ?_
    refine lv_imul hx hb dX11_halves_111 ?_
    refine lv_aload_n hx hb dX11_halves_112 rfl (lv_at hl 0 rfl) ?_
    obtain ⟨q113, c113, hf⟩ := br_b hf
    refine x_callV (k := 47) (As := []) (rest := [.int ((2 : Int32) * x5)]) (st1 := [.int q113, .int ((2 : Int32) * x5)]) X hR (ctX11_total c113) ml_X11_266 im_X11_total se_X11_total in_X11 co_X11_total yo_X11_total rfl kX11 (z_47 b) (rm_ok (by decide) (by decide)) rfl hl.1 rfl rfl (Nat.le_of_ble_eq_true rfl) dX11_halves_113 ⟨Nat.zero_le _, Nat.zero_le _⟩ (fun H locs hR => ?_)
    refine lv_icmp_gt (tgt := 123) hx hb dX11_halves_116 (by decide) (fun q116 => ?_) (fun q116 => ?_)
    · have hf := (br_if hf).1 q116
      exact wX11_halves_123 X hf hR (lv_sub hl [] rfl)
    · have hf := (br_if hf).2 q116
      refine lv_iconst (v := 1) hx hb dX11_halves_119 (by decide) ?_
      refine lv_goto (tgt := 124) hx hb dX11_halves_120 (by decide) ?_
      exact wX11_halves_124 X hf hR (lv_sub hl [] rfl)
set_option maxHeartbeats 4000000 in
set_option maxRecDepth 100000 in
theorem wX11_halves_0 {r : Int32} {M : Mem} (X : CX E p s m args c meth cX11_halves 8 (some .boolean) RX11) : ∀ {x1 : Int32} {x2 : Int32} {x3 : Int32} {H : Heap} {locs : List Loc} {ls : Array Slot}, fX11_halves M x1 x2 x3 = some r → Rl E (sh_ b) (nn b) s.heap M H locs → lv_has ls 8 [(0, .ref (eB E + 47)), (1, .int x1), (2, .int x2), (3, .int x3)] → W p l e (rm 3 0 0) s m args below meth c H locs 0 0 (MQ below (qq E (some (.int r)) (sh_ b) (nn b) M) args s 0 0 (fr E)) (F0 m 0 ls []) := by
  obtain ⟨hx, hb, hr, hml, hown, hts, hK, hN, hO, hlk, hbs⟩ := id X
  intro x1 x2 x3 H locs ls hf hR hl
  unfold fX11_halves at hf
  refine lv_iconst (v := 0) hx hb dX11_halves_0 (by decide) ?_
  refine lv_istore (lv' := [(4, .int (0 : Int32)), (0, .ref (eB E + 47)), (1, .int x1), (2, .int x2), (3, .int x3)]) hx hb dX11_halves_1 hl (by decide) rfl (fun ls hl => ?_)
  refine lv_iconst (v := 0) hx hb dX11_halves_3 (by decide) ?_
  refine lv_istore (lv' := [(5, .int (0 : Int32)), (4, .int (0 : Int32)), (0, .ref (eB E + 47)), (1, .int x1), (2, .int x2), (3, .int x3)]) hx hb dX11_halves_4 hl (by decide) rfl (fun ls hl => ?_)
  refine lv_iconst (v := 0) hx hb dX11_halves_6 (by decide) ?_
  refine lv_istore (lv' := [(6, .int (0 : Int32)), (5, .int (0 : Int32)), (4, .int (0 : Int32)), (0, .ref (eB E + 47)), (1, .int x1), (2, .int x2), (3, .int x3)]) hx hb dX11_halves_7 hl (by decide) rfl (fun ls hl => ?_)
  exact wX11_halves_9 X (fun hf hR hl => wX11_halves_97 X hf hR hl) FU hf hR (lv_sub hl [3, 4, 5, 6, 2, 1, 0] rfl)
theorem ctX11_halves {l : Launch} {E : Ge} {b : Bool} {M : Mem} {x1 : Int32} {x2 : Int32} {x3 : Int32} {r : Int32} (h : fX11_halves M x1 x2 x3 = some r) : CT l E yX11_halves cX11_halves 8 (some .boolean) 3 0 0 [.ref (eB E + 47), .int x1, .int x2, .int x3] (some (.int r)) (sh_ b) (nn b) M (sh_ b) (nn b) M := by
  refine met_of (by decide) (Nat.le_of_ble_eq_true rfl) ?_
  intro p e s m args below meth c X _ hR ls hl
  exact wX11_halves_0 X h hR hl
def fX11_isUnbeaten_26 (M : Mem) (k2 : Int32 → Int32 → Option Int32) (k24 : Option Int32) (k32 : Option Int32) (x1 : Int32) (x2 : Int32) : Option Int32 := nx (x2 + (1 : Int32)) (fun v26 => k2 x1 v26)
def fX11_isUnbeaten_2 (M : Mem) (k24 : Option Int32) (k32 : Option Int32) : Nat → Int32 → Int32 → Option Int32
  | 0, _, _ => none
  | n + 1, x1, x2 => (fX11_places M).bind (fun q4 => (if q4 ≤ x2 then k32 else (if x2 = x1 then fX11_isUnbeaten_26 M (fX11_isUnbeaten_2 M k24 k32 n) k24 k32 x1 x2 else (fX11_beatsOf M x2 x1).bind (fun q18 => (if q18 = 0 then fX11_isUnbeaten_26 M (fX11_isUnbeaten_2 M k24 k32 n) k24 k32 x1 x2 else k24)))))
def fX11_isUnbeaten_24 (M : Mem) : Option Int32 := some (0 : Int32)
def fX11_isUnbeaten_32 (M : Mem) : Option Int32 := some (1 : Int32)
def fX11_isUnbeaten (M : Mem) (x1 : Int32) : Option Int32 := fX11_isUnbeaten_2 M (fX11_isUnbeaten_24 M) (fX11_isUnbeaten_32 M) FU x1 (0 : Int32)
set_option maxHeartbeats 4000000 in
set_option maxRecDepth 100000 in
theorem wX11_isUnbeaten_26 {r : Int32} {M : Mem} {k2 : Int32 → Int32 → Option Int32} {k24 : Option Int32} {k32 : Option Int32} (X : CX E p s m args c meth cX11_isUnbeaten 3 (some .boolean) RX11) (hk2 : ∀ {x1 : Int32} {x2 : Int32} {H : Heap} {locs : List Loc} {ls : Array Slot}, k2 x1 x2 = some r → Rl E (sh_ b) (nn b) s.heap M H locs → lv_has ls 3 [(0, .ref (eB E + 47)), (1, .int x1), (2, .int x2)] → W p l e (rm 7 0 0) s m args below meth c H locs 0 0 (MQ below (qq E (some (.int r)) (sh_ b) (nn b) M) args s 0 0 (fr E)) (F0 m 2 ls [])) (hk24 : ∀ {H : Heap} {locs : List Loc} {ls : Array Slot}, k24 = some r → Rl E (sh_ b) (nn b) s.heap M H locs → lv_has ls 3 [] → W p l e (rm 7 0 0) s m args below meth c H locs 0 0 (MQ below (qq E (some (.int r)) (sh_ b) (nn b) M) args s 0 0 (fr E)) (F0 m 24 ls [])) (hk32 : ∀ {H : Heap} {locs : List Loc} {ls : Array Slot}, k32 = some r → Rl E (sh_ b) (nn b) s.heap M H locs → lv_has ls 3 [] → W p l e (rm 7 0 0) s m args below meth c H locs 0 0 (MQ below (qq E (some (.int r)) (sh_ b) (nn b) M) args s 0 0 (fr E)) (F0 m 32 ls [])) : ∀ {x1 : Int32} {x2 : Int32} {H : Heap} {locs : List Loc} {ls : Array Slot}, fX11_isUnbeaten_26 M k2 k24 k32 x1 x2 = some r → Rl E (sh_ b) (nn b) s.heap M H locs → lv_has ls 3 [(0, .ref (eB E + 47)), (1, .int x1), (2, .int x2)] → W p l e (rm 7 0 0) s m args below meth c H locs 0 0 (MQ below (qq E (some (.int r)) (sh_ b) (nn b) M) args s 0 0 (fr E)) (F0 m 26 ls []) := by
  obtain ⟨hx, hb, hr, hml, hown, hts, hK, hN, hO, hlk, hbs⟩ := id X
  intro x1 x2 H locs ls hf hR hl
  unfold fX11_isUnbeaten_26 at hf
  obtain ⟨v26, e26⟩ : ∃ y : Int32, y = (x2 + (1 : Int32)) := ⟨_, rfl⟩
  have hf := nx_at e26 hf
  refine lv_iinc (v := v26) (lv' := [(2, .int v26), (0, .ref (eB E + 47)), (1, .int x1)]) hx hb dX11_isUnbeaten_26 hl (k := 2) rfl (by rw [e26]; rfl) (by decide) rfl (fun ls hl => ?_)
  refine lv_goto (tgt := 2) hx hb dX11_isUnbeaten_29 (by decide) ?_
  exact hk2 hf hR (lv_sub hl [1, 2, 0] rfl)
set_option maxHeartbeats 4000000 in
set_option maxRecDepth 100000 in
theorem wX11_isUnbeaten_2 {r : Int32} {M : Mem} {k24 : Option Int32} {k32 : Option Int32} (X : CX E p s m args c meth cX11_isUnbeaten 3 (some .boolean) RX11) (hk24 : ∀ {H : Heap} {locs : List Loc} {ls : Array Slot}, k24 = some r → Rl E (sh_ b) (nn b) s.heap M H locs → lv_has ls 3 [] → W p l e (rm 7 0 0) s m args below meth c H locs 0 0 (MQ below (qq E (some (.int r)) (sh_ b) (nn b) M) args s 0 0 (fr E)) (F0 m 24 ls [])) (hk32 : ∀ {H : Heap} {locs : List Loc} {ls : Array Slot}, k32 = some r → Rl E (sh_ b) (nn b) s.heap M H locs → lv_has ls 3 [] → W p l e (rm 7 0 0) s m args below meth c H locs 0 0 (MQ below (qq E (some (.int r)) (sh_ b) (nn b) M) args s 0 0 (fr E)) (F0 m 32 ls [])) : ∀ (n : Nat) {x1 : Int32} {x2 : Int32} {H : Heap} {locs : List Loc} {ls : Array Slot}, fX11_isUnbeaten_2 M k24 k32 n x1 x2 = some r → Rl E (sh_ b) (nn b) s.heap M H locs → lv_has ls 3 [(0, .ref (eB E + 47)), (1, .int x1), (2, .int x2)] → W p l e (rm 7 0 0) s m args below meth c H locs 0 0 (MQ below (qq E (some (.int r)) (sh_ b) (nn b) M) args s 0 0 (fr E)) (F0 m 2 ls []) := by
  obtain ⟨hx, hb, hr, hml, hown, hts, hK, hN, hO, hlk, hbs⟩ := id X
  intro n
  induction n with
  | zero =>
    intro x1 x2 H locs ls hf hR hl
    exact absurd (show none = some _ from hf) (fun h => by cases h)
  | succ n ih =>
    intro x1 x2 H locs ls hf hR hl
    rw [fX11_isUnbeaten_2] at hf
    refine lv_iload_n hx hb dX11_isUnbeaten_2 rfl (lv_at hl 2 rfl) ?_
    refine lv_aload_n hx hb dX11_isUnbeaten_3 rfl (lv_at hl 0 rfl) ?_
    obtain ⟨q4, c4, hf⟩ := br_b hf
    refine x_callV (k := 47) (As := []) (rest := [.int x2]) (st1 := [.int q4, .int x2]) X hR (ctX11_places c4) ml_X11_242 im_X11_places se_X11_places in_X11 co_X11_places yo_X11_places rfl kX11 (z_47 b) (rm_ok (by decide) (by decide)) rfl hl.1 rfl rfl (Nat.le_of_ble_eq_true rfl) dX11_isUnbeaten_4 ⟨Nat.zero_le _, Nat.zero_le _⟩ (fun H locs hR => ?_)
    refine lv_icmp_ge (tgt := 32) hx hb dX11_isUnbeaten_7 (by decide) (fun q7 => ?_) (fun q7 => ?_)
    · have hf := (br_if hf).1 q7
      exact hk32 hf hR (lv_sub hl [] rfl)
    · have hf := (br_if hf).2 q7
      refine lv_iload_n hx hb dX11_isUnbeaten_10 rfl (lv_at hl 2 rfl) ?_
      refine lv_iload_n hx hb dX11_isUnbeaten_11 rfl (lv_at hl 1 rfl) ?_
      refine lv_icmp_eq (tgt := 26) hx hb dX11_isUnbeaten_12 (by decide) (fun q12 => ?_) (fun q12 => ?_)
      · have hf := (br_if hf).1 q12
        exact wX11_isUnbeaten_26 X (fun hf hR hl => ih hf hR hl) (fun hf hR hl => hk24 hf hR hl) (fun hf hR hl => hk32 hf hR hl) hf hR hl
      · have hf := (br_if hf).2 q12
        refine lv_aload_n hx hb dX11_isUnbeaten_15 rfl (lv_at hl 0 rfl) ?_
        refine lv_iload_n hx hb dX11_isUnbeaten_16 rfl (lv_at hl 2 rfl) ?_
        refine lv_iload_n hx hb dX11_isUnbeaten_17 rfl (lv_at hl 1 rfl) ?_
        obtain ⟨q18, c18, hf⟩ := br_b hf
        refine x_callV (k := 47) (As := [.int x2, .int x1]) (rest := []) (st1 := [.int q18]) X hR (ctX11_beatsOf c18) ml_X11_283 im_X11_beatsOf se_X11_beatsOf in_X11 co_X11_beatsOf yo_X11_beatsOf rfl kX11 (z_47 b) (rm_ok (by decide) (by decide)) rfl hl.1 rfl rfl (Nat.le_of_ble_eq_true rfl) dX11_isUnbeaten_18 ⟨Nat.zero_le _, Nat.zero_le _⟩ (fun H locs hR => ?_)
        refine lv_if_eq (tgt := 26) hx hb dX11_isUnbeaten_21 (by decide) (fun q21 => ?_) (fun q21 => ?_)
        · have hf := (br_if hf).1 q21
          exact wX11_isUnbeaten_26 X (fun hf hR hl => ih hf hR hl) (fun hf hR hl => hk24 hf hR hl) (fun hf hR hl => hk32 hf hR hl) hf hR hl
        · have hf := (br_if hf).2 q21
          exact hk24 hf hR (lv_sub hl [] rfl)
set_option maxHeartbeats 4000000 in
set_option maxRecDepth 100000 in
theorem wX11_isUnbeaten_24 {r : Int32} {M : Mem} (X : CX E p s m args c meth cX11_isUnbeaten 3 (some .boolean) RX11) : ∀ {H : Heap} {locs : List Loc} {ls : Array Slot}, fX11_isUnbeaten_24 M = some r → Rl E (sh_ b) (nn b) s.heap M H locs → lv_has ls 3 [] → W p l e (rm 7 0 0) s m args below meth c H locs 0 0 (MQ below (qq E (some (.int r)) (sh_ b) (nn b) M) args s 0 0 (fr E)) (F0 m 24 ls []) := by
  obtain ⟨hx, hb, hr, hml, hown, hts, hK, hN, hO, hlk, hbs⟩ := id X
  intro H locs ls hf hR hl
  unfold fX11_isUnbeaten_24 at hf
  refine lv_iconst (v := 0) hx hb dX11_isUnbeaten_24 (by decide) ?_
  cases hf
  exact x_zret hx hb hr hlk hR (by decide) dX11_isUnbeaten_25
set_option maxHeartbeats 4000000 in
set_option maxRecDepth 100000 in
theorem wX11_isUnbeaten_32 {r : Int32} {M : Mem} (X : CX E p s m args c meth cX11_isUnbeaten 3 (some .boolean) RX11) : ∀ {H : Heap} {locs : List Loc} {ls : Array Slot}, fX11_isUnbeaten_32 M = some r → Rl E (sh_ b) (nn b) s.heap M H locs → lv_has ls 3 [] → W p l e (rm 7 0 0) s m args below meth c H locs 0 0 (MQ below (qq E (some (.int r)) (sh_ b) (nn b) M) args s 0 0 (fr E)) (F0 m 32 ls []) := by
  obtain ⟨hx, hb, hr, hml, hown, hts, hK, hN, hO, hlk, hbs⟩ := id X
  intro H locs ls hf hR hl
  unfold fX11_isUnbeaten_32 at hf
  refine lv_iconst (v := 1) hx hb dX11_isUnbeaten_32 (by decide) ?_
  cases hf
  exact x_zret hx hb hr hlk hR (by decide) dX11_isUnbeaten_33
set_option maxHeartbeats 4000000 in
set_option maxRecDepth 100000 in
theorem wX11_isUnbeaten_0 {r : Int32} {M : Mem} (X : CX E p s m args c meth cX11_isUnbeaten 3 (some .boolean) RX11) : ∀ {x1 : Int32} {H : Heap} {locs : List Loc} {ls : Array Slot}, fX11_isUnbeaten M x1 = some r → Rl E (sh_ b) (nn b) s.heap M H locs → lv_has ls 3 [(0, .ref (eB E + 47)), (1, .int x1)] → W p l e (rm 7 0 0) s m args below meth c H locs 0 0 (MQ below (qq E (some (.int r)) (sh_ b) (nn b) M) args s 0 0 (fr E)) (F0 m 0 ls []) := by
  obtain ⟨hx, hb, hr, hml, hown, hts, hK, hN, hO, hlk, hbs⟩ := id X
  intro x1 H locs ls hf hR hl
  unfold fX11_isUnbeaten at hf
  refine lv_iconst (v := 0) hx hb dX11_isUnbeaten_0 (by decide) ?_
  refine lv_istore_n (lv' := [(2, .int (0 : Int32)), (0, .ref (eB E + 47)), (1, .int x1)]) hx hb dX11_isUnbeaten_1 rfl hl (by decide) rfl (fun ls hl => ?_)
  exact wX11_isUnbeaten_2 X (fun hf hR hl => wX11_isUnbeaten_24 X hf hR hl) (fun hf hR hl => wX11_isUnbeaten_32 X hf hR hl) FU hf hR (lv_sub hl [1, 2, 0] rfl)
theorem ctX11_isUnbeaten {l : Launch} {E : Ge} {b : Bool} {M : Mem} {x1 : Int32} {r : Int32} (h : fX11_isUnbeaten M x1 = some r) : CT l E yX11_isUnbeaten cX11_isUnbeaten 3 (some .boolean) 7 0 0 [.ref (eB E + 47), .int x1] (some (.int r)) (sh_ b) (nn b) M (sh_ b) (nn b) M := by
  refine met_of (by decide) (Nat.le_of_ble_eq_true rfl) ?_
  intro p e s m args below meth c X _ hR ls hl
  exact wX11_isUnbeaten_0 X h hR hl
end WK
