section WK
variable {p : Program} {l : Launch} {e : Env} {s : State} {m : MethodId} {args : Array Value} {below : List Frame} {meth : Method} {c : Code} {E : Ge} {b : Bool}
def fX1_markColumn_142_10 (M : Mem) : Option Mem := some M
def fX1_markColumn_142_94 (M : Mem) : Option Mem := some M
def fX1_markColumn_142 (x1 : Int32) (x2 : Int32) (x3 : Int32) (M : Mem) : Option Mem := (if x2 < 0 then fX1_markColumn_142_10 M else (if x2 < (100 : Int32) then (if inb x1 15 = true then nx (imax (0 : Int32) ((M.1 3 (ix x1)) - x3)) (fun v26 => (if inb x1 15 = true then nx (((M.1 3 (ix x1)) + x3) + (1 : Int32)) (fun v41 => (if inb ((x2 * (100 : Int32)) + v26) 10000 = true then (if inb x1 15 = true then (if inb ((x2 * (100 : Int32)) + v26) 10000 = true then nx (sI M 142 (ix ((x2 * (100 : Int32)) + v26)) ((M.1 142 (ix ((x2 * (100 : Int32)) + v26))) + (M.1 4 (ix x1)))) (fun M64 => (if (100 : Int32) ≤ v41 then fX1_markColumn_142_94 M64 else (if inb ((x2 * (100 : Int32)) + v41) 10000 = true then (if inb x1 15 = true then (if inb ((x2 * (100 : Int32)) + v41) 10000 = true then nx (sI M64 142 (ix ((x2 * (100 : Int32)) + v41)) ((M64.1 142 (ix ((x2 * (100 : Int32)) + v41))) - (M64.1 4 (ix x1)))) (fun M93 => fX1_markColumn_142_94 M93) else none) else none) else none))) else none) else none) else none)) else none)) else none) else fX1_markColumn_142_10 M))
set_option maxHeartbeats 4000000 in
set_option maxRecDepth 100000 in
theorem wX1_markColumn_142_10 {M1 : Mem} (X : CX E p s m args c meth cX1_markColumn 7 none RX1) : ∀ {M : Mem} {H : Heap} {locs : List Loc} {ls : Array Slot}, fX1_markColumn_142_10 M = some M1 → Rl E (sh_ true) (nn true) s.heap M H locs → lv_has ls 7 [] → W p l e (rm 2 0 0) s m args below meth c H locs 0 0 (MQ below (qq E none (sh_ true) (nn true) M1) args s 0 0 (fr E)) (F0 m 10 ls []) := by
  obtain ⟨hx, hb, hr, hml, hown, hts, hK, hN, hO, hlk, hbs⟩ := id X
  intro M H locs ls hf hR hl
  unfold fX1_markColumn_142_10 at hf
  cases hf
  exact x_vret hx hb hr hlk hR dX1_markColumn_10
set_option maxHeartbeats 4000000 in
set_option maxRecDepth 100000 in
theorem wX1_markColumn_142_94 {M1 : Mem} (X : CX E p s m args c meth cX1_markColumn 7 none RX1) : ∀ {M : Mem} {H : Heap} {locs : List Loc} {ls : Array Slot}, fX1_markColumn_142_94 M = some M1 → Rl E (sh_ true) (nn true) s.heap M H locs → lv_has ls 7 [] → W p l e (rm 2 0 0) s m args below meth c H locs 0 0 (MQ below (qq E none (sh_ true) (nn true) M1) args s 0 0 (fr E)) (F0 m 94 ls []) := by
  obtain ⟨hx, hb, hr, hml, hown, hts, hK, hN, hO, hlk, hbs⟩ := id X
  intro M H locs ls hf hR hl
  unfold fX1_markColumn_142_94 at hf
  cases hf
  exact x_vret hx hb hr hlk hR dX1_markColumn_94
set_option maxHeartbeats 4000000 in
set_option maxRecDepth 100000 in
theorem wX1_markColumn_142_0 {M1 : Mem} (X : CX E p s m args c meth cX1_markColumn 7 none RX1) : ∀ {x1 : Int32} {x2 : Int32} {x3 : Int32} {M : Mem} {H : Heap} {locs : List Loc} {ls : Array Slot}, fX1_markColumn_142 x1 x2 x3 M = some M1 → Rl E (sh_ true) (nn true) s.heap M H locs → lv_has ls 7 [(0, .ref (eB E + 141)), (1, .int x1), (2, .int x2), (3, .int x3), (4, .ref (eB E + 142))] → W p l e (rm 2 0 0) s m args below meth c H locs 0 0 (MQ below (qq E none (sh_ true) (nn true) M1) args s 0 0 (fr E)) (F0 m 0 ls []) := by
  obtain ⟨hx, hb, hr, hml, hown, hts, hK, hN, hO, hlk, hbs⟩ := id X
  intro x1 x2 x3 M H locs ls hf hR hl
  unfold fX1_markColumn_142 at hf
  refine lv_iload_n hx hb dX1_markColumn_0 rfl (lv_at hl 2 rfl) ?_
  refine lv_if_lt (tgt := 10) hx hb dX1_markColumn_1 (by decide) (fun q1 => ?_) (fun q1 => ?_)
  · have hf := (br_if hf).1 q1
    exact wX1_markColumn_142_10 X hf hR (lv_sub hl [] rfl)
  · have hf := (br_if hf).2 q1
    refine lv_iload_n hx hb dX1_markColumn_4 rfl (lv_at hl 2 rfl) ?_
    refine lv_bipush (v := 100) hx hb dX1_markColumn_5 (by decide) ?_
    refine lv_icmp_lt (tgt := 11) hx hb dX1_markColumn_7 (by decide) (fun q7 => ?_) (fun q7 => ?_)
    · have hf := (br_if hf).1 q7
      refine lv_iconst (v := 0) hx hb dX1_markColumn_11 (by decide) ?_
      refine lv_aload_n hx hb dX1_markColumn_12 rfl (lv_at hl 0 rfl) ?_
      refine x_get hx hb hown hts hK hR kX1 z_141 (j := 0) (by decide) fl_X1_38 (v := .ref (eB E + 1)) rfl dX1_markColumn_13 ?_
      refine x_get hx hb hown hts hK hR kX8 (z_1 true) (j := 2) (by decide) fl_X1_99 (v := .ref (eB E + 3)) rfl dX1_markColumn_16 ?_
      refine lv_iload_n hx hb dX1_markColumn_19 rfl (lv_at hl 1 rfl) ?_
      obtain ⟨g20, hf⟩ := br_g hf
      refine x_iald hx hb hK hR (z_3 true) g20 dX1_markColumn_20 ?_
      refine lv_iload_n hx hb dX1_markColumn_21 rfl (lv_at hl 3 rfl) ?_
      refine lv_isub hx hb dX1_markColumn_22 ?_
      refine va_mmax hx hb (by rw [hml]; exact hl.1.symm) hown (hts _ ml_X1_62) (hts _ st_max) (hts _ in_J9) (hts _ co_max) (by decide) (Nat.le_of_ble_eq_true rfl) (Nat.zero_le _) (Nat.zero_le _) dX1_markColumn_23 ?_
      refine W.eq (g2 := F0 m 26 ls [.int (imax (0 : Int32) ((M.1 3 (ix x1)) - x3))]) rfl ?_
      refine lv_topi (fun v26 e26 => ?_)
      have hf := nx_at e26 hf
      refine lv_istore (lv' := [(5, .int v26), (0, .ref (eB E + 141)), (1, .int x1), (2, .int x2), (3, .int x3), (4, .ref (eB E + 142))]) hx hb dX1_markColumn_26 hl (by decide) rfl (fun ls hl => ?_)
      refine lv_aload_n hx hb dX1_markColumn_28 rfl (lv_at hl 1 rfl) ?_
      refine x_get hx hb hown hts hK hR kX1 z_141 (j := 0) (by decide) fl_X1_38 (v := .ref (eB E + 1)) rfl dX1_markColumn_29 ?_
      refine x_get hx hb hown hts hK hR kX8 (z_1 true) (j := 2) (by decide) fl_X1_99 (v := .ref (eB E + 3)) rfl dX1_markColumn_32 ?_
      refine lv_iload_n hx hb dX1_markColumn_35 rfl (lv_at hl 2 rfl) ?_
      obtain ⟨g36, hf⟩ := br_g hf
      refine x_iald hx hb hK hR (z_3 true) g36 dX1_markColumn_36 ?_
      refine lv_iload_n hx hb dX1_markColumn_37 rfl (lv_at hl 4 rfl) ?_
      refine lv_iadd hx hb dX1_markColumn_38 ?_
      refine lv_iconst (v := 1) hx hb dX1_markColumn_39 (by decide) ?_
      refine lv_iadd hx hb dX1_markColumn_40 ?_
      refine lv_topi (fun v41 e41 => ?_)
      have hf := nx_at e41 hf
      refine lv_istore (lv' := [(6, .int v41), (5, .int v26), (0, .ref (eB E + 141)), (1, .int x1), (2, .int x2), (3, .int x3), (4, .ref (eB E + 142))]) hx hb dX1_markColumn_41 hl (by decide) rfl (fun ls hl => ?_)
      refine lv_aload hx hb dX1_markColumn_43 (lv_at hl 6 rfl) ?_
      refine lv_iload_n hx hb dX1_markColumn_45 rfl (lv_at hl 4 rfl) ?_
      refine lv_bipush (v := 100) hx hb dX1_markColumn_46 (by decide) ?_
      refine lv_imul hx hb dX1_markColumn_48 ?_
      refine lv_iload hx hb dX1_markColumn_49 (lv_at hl 1 rfl) ?_
      refine lv_iadd hx hb dX1_markColumn_51 ?_
      refine lv_dup2_11 hx hb dX1_markColumn_52 rfl rfl ?_
      obtain ⟨g53, hf⟩ := br_g hf
      refine x_iald hx hb hK hR z_142 g53 dX1_markColumn_53 ?_
      refine lv_aload_n hx hb dX1_markColumn_54 rfl (lv_at hl 2 rfl) ?_
      refine x_get hx hb hown hts hK hR kX1 z_141 (j := 0) (by decide) fl_X1_38 (v := .ref (eB E + 1)) rfl dX1_markColumn_55 ?_
      refine x_get hx hb hown hts hK hR kX8 (z_1 true) (j := 3) (by decide) fl_X1_102 (v := .ref (eB E + 4)) rfl dX1_markColumn_58 ?_
      refine lv_iload_n hx hb dX1_markColumn_61 rfl (lv_at hl 3 rfl) ?_
      obtain ⟨g62, hf⟩ := br_g hf
      refine x_iald hx hb hK hR (z_4 true) g62 dX1_markColumn_62 ?_
      refine lv_iadd hx hb dX1_markColumn_63 ?_
      obtain ⟨g64, hf⟩ := br_g hf
      refine x_iast hx hb hK hR z_142 g64 dX1_markColumn_64 (fun H locs hR => ?_)
      obtain ⟨M64, e64⟩ : ∃ y : Mem, y = (sI M 142 (ix ((x2 * (100 : Int32)) + v26)) ((M.1 142 (ix ((x2 * (100 : Int32)) + v26))) + (M.1 4 (ix x1)))) := ⟨_, rfl⟩
      have hf := nx_at e64 hf
      have hR : Rl E (sh_ true) (nn true) s.heap M64 H locs := by rw [e64]; exact hR
      refine lv_iload hx hb dX1_markColumn_65 (lv_at hl 0 rfl) ?_
      refine lv_bipush (v := 100) hx hb dX1_markColumn_67 (by decide) ?_
      refine lv_icmp_ge (tgt := 94) hx hb dX1_markColumn_69 (by decide) (fun q69 => ?_) (fun q69 => ?_)
      · have hf := (br_if hf).1 q69
        exact wX1_markColumn_142_94 X hf hR (lv_sub hl [] rfl)
      · have hf := (br_if hf).2 q69
        refine lv_aload hx hb dX1_markColumn_72 (lv_at hl 6 rfl) ?_
        refine lv_iload_n hx hb dX1_markColumn_74 rfl (lv_at hl 4 rfl) ?_
        refine lv_bipush (v := 100) hx hb dX1_markColumn_75 (by decide) ?_
        refine lv_imul hx hb dX1_markColumn_77 ?_
        refine lv_iload hx hb dX1_markColumn_78 (lv_at hl 0 rfl) ?_
        refine lv_iadd hx hb dX1_markColumn_80 ?_
        refine lv_dup2_11 hx hb dX1_markColumn_81 rfl rfl ?_
        obtain ⟨g82, hf⟩ := br_g hf
        refine x_iald hx hb hK hR z_142 g82 dX1_markColumn_82 ?_
        refine lv_aload_n hx hb dX1_markColumn_83 rfl (lv_at hl 2 rfl) ?_
        refine x_get hx hb hown hts hK hR kX1 z_141 (j := 0) (by decide) fl_X1_38 (v := .ref (eB E + 1)) rfl dX1_markColumn_84 ?_
        refine x_get hx hb hown hts hK hR kX8 (z_1 true) (j := 3) (by decide) fl_X1_102 (v := .ref (eB E + 4)) rfl dX1_markColumn_87 ?_
        refine lv_iload_n hx hb dX1_markColumn_90 rfl (lv_at hl 3 rfl) ?_
        obtain ⟨g91, hf⟩ := br_g hf
        refine x_iald hx hb hK hR (z_4 true) g91 dX1_markColumn_91 ?_
        refine lv_isub hx hb dX1_markColumn_92 ?_
        obtain ⟨g93, hf⟩ := br_g hf
        refine x_iast hx hb hK hR z_142 g93 dX1_markColumn_93 (fun H locs hR => ?_)
        obtain ⟨M93, e93⟩ : ∃ y : Mem, y = (sI M64 142 (ix ((x2 * (100 : Int32)) + v41)) ((M64.1 142 (ix ((x2 * (100 : Int32)) + v41))) - (M64.1 4 (ix x1)))) := ⟨_, rfl⟩
        have hf := nx_at e93 hf
        have hR : Rl E (sh_ true) (nn true) s.heap M93 H locs := by rw [e93]; exact hR
        exact wX1_markColumn_142_94 X hf hR (lv_sub hl [] rfl)
    · have hf := (br_if hf).2 q7
      exact wX1_markColumn_142_10 X hf hR (lv_sub hl [] rfl)
theorem ctX1_markColumn_142 {l : Launch} {E : Ge} {M : Mem} {x1 : Int32} {x2 : Int32} {x3 : Int32} {M1 : Mem} (h : fX1_markColumn_142 x1 x2 x3 M = some M1) : CT l E yX1_markColumn cX1_markColumn 7 none 2 0 0 [.ref (eB E + 141), .int x1, .int x2, .int x3, .ref (eB E + 142)] none (sh_ true) (nn true) M (sh_ true) (nn true) M1 := by
  refine met_of (by decide) (Nat.le_of_ble_eq_true rfl) ?_
  intro p e s m args below meth c X _ hR ls hl
  exact wX1_markColumn_142_0 X h hR hl
def fX1_markWithin_142_14 (k41 : Int32 → Int32 → Int32 → Int32 → Mem → Option Mem) : Nat → Int32 → Int32 → Int32 → Int32 → Mem → Option Mem
  | 0, _, _, _, _, _ => none
  | n + 1, x1, x2, x4, x5, M => (if x4 < 0 then k41 x1 x2 x4 x5 M else (fX8_wayOver_t M x1 x5 x4).bind (fun q28 => (if q28 ≤ x2 then k41 x1 x2 x4 x5 M else nx (x4 + (-1 : Int32)) (fun v35 => fX1_markWithin_142_14 k41 n x1 x2 v35 x5 M))))
def fX1_markWithin_142_92 (k7 : Int32 → Int32 → Int32 → Int32 → Mem → Option Mem) (k46 : Mem → Option Mem) (k98 : Mem → Option Mem) (x1 : Int32) (x2 : Int32) (x4 : Int32) (x5 : Int32) (M : Mem) : Option Mem := nx (x5 + (1 : Int32)) (fun v92 => k7 x1 x2 x4 v92 M)
def fX1_markWithin_142_41 (k7 : Int32 → Int32 → Int32 → Int32 → Mem → Option Mem) (k46 : Mem → Option Mem) (k98 : Mem → Option Mem) (x1 : Int32) (x2 : Int32) (x4 : Int32) (x5 : Int32) (M : Mem) : Option Mem := (if 0 ≤ x4 then (if inb x1 15 = true then (fX1_markColumn_142 x1 ((M.1 2 (ix x1)) + x5) x4 M).bind (fun q64 => (if x5 ≤ 0 then fX1_markWithin_142_92 k7 k46 k98 x1 x2 x4 x5 q64 else (if inb x1 15 = true then (fX1_markColumn_142 x1 ((q64.1 2 (ix x1)) - x5) x4 q64).bind (fun q89 => fX1_markWithin_142_92 k7 k46 k98 x1 x2 x4 x5 q89) else none))) else none) else k46 M)
def fX1_markWithin_142_7 (k46 : Mem → Option Mem) (k98 : Mem → Option Mem) : Nat → Int32 → Int32 → Int32 → Int32 → Mem → Option Mem
  | 0, _, _, _, _, _ => none
  | n + 1, x1, x2, x4, x5, M => (if (100 : Int32) ≤ x5 then k98 M else fX1_markWithin_142_14 (fX1_markWithin_142_41 (fX1_markWithin_142_7 k46 k98 n) k46 k98) FU x1 x2 x4 x5 M)
def fX1_markWithin_142_46 (M : Mem) : Option Mem := some M
def fX1_markWithin_142_98 (M : Mem) : Option Mem := some M
def fX1_markWithin_142 (x1 : Int32) (x2 : Int32) (M : Mem) : Option Mem := fX1_markWithin_142_7 fX1_markWithin_142_46 fX1_markWithin_142_98 FU x1 x2 (99 : Int32) (0 : Int32) M
set_option maxHeartbeats 4000000 in
set_option maxRecDepth 100000 in
theorem wX1_markWithin_142_14 {M1 : Mem} {k41 : Int32 → Int32 → Int32 → Int32 → Mem → Option Mem} (X : CX E p s m args c meth cX1_markWithin 6 none RX1) (hk41 : ∀ {x1 : Int32} {x2 : Int32} {x4 : Int32} {x5 : Int32} {M : Mem} {H : Heap} {locs : List Loc} {ls : Array Slot}, k41 x1 x2 x4 x5 M = some M1 → Rl E (sh_ true) (nn true) s.heap M H locs → lv_has ls 6 [(0, .ref (eB E + 141)), (1, .int x1), (2, .int x2), (3, .ref (eB E + 142)), (4, .int x4), (5, .int x5)] → W p l e (rm 3 0 0) s m args below meth c H locs 0 0 (MQ below (qq E none (sh_ true) (nn true) M1) args s 0 0 (fr E)) (F0 m 41 ls [])) : ∀ (n : Nat) {x1 : Int32} {x2 : Int32} {x4 : Int32} {x5 : Int32} {M : Mem} {H : Heap} {locs : List Loc} {ls : Array Slot}, fX1_markWithin_142_14 k41 n x1 x2 x4 x5 M = some M1 → Rl E (sh_ true) (nn true) s.heap M H locs → lv_has ls 6 [(0, .ref (eB E + 141)), (1, .int x1), (2, .int x2), (3, .ref (eB E + 142)), (4, .int x4), (5, .int x5)] → W p l e (rm 3 0 0) s m args below meth c H locs 0 0 (MQ below (qq E none (sh_ true) (nn true) M1) args s 0 0 (fr E)) (F0 m 14 ls []) := by
  obtain ⟨hx, hb, hr, hml, hown, hts, hK, hN, hO, hlk, hbs⟩ := id X
  intro n
  induction n with
  | zero =>
    intro x1 x2 x4 x5 M H locs ls hf hR hl
    exact absurd (show none = some _ from hf) (fun h => by cases h)
  | succ n ih =>
    intro x1 x2 x4 x5 M H locs ls hf hR hl
    rw [fX1_markWithin_142_14] at hf
    refine lv_iload hx hb dX1_markWithin_14 (lv_at hl 4 rfl) ?_
    refine lv_if_lt (tgt := 41) hx hb dX1_markWithin_16 (by decide) (fun q16 => ?_) (fun q16 => ?_)
    · have hf := (br_if hf).1 q16
      exact hk41 hf hR hl
    · have hf := (br_if hf).2 q16
      refine lv_aload_n hx hb dX1_markWithin_19 rfl (lv_at hl 0 rfl) ?_
      refine x_get hx hb hown hts hK hR kX1 z_141 (j := 0) (by decide) fl_X1_38 (v := .ref (eB E + 1)) rfl dX1_markWithin_20 ?_
      refine lv_iload_n hx hb dX1_markWithin_23 rfl (lv_at hl 1 rfl) ?_
      refine lv_iload hx hb dX1_markWithin_24 (lv_at hl 5 rfl) ?_
      refine lv_iload hx hb dX1_markWithin_26 (lv_at hl 4 rfl) ?_
      obtain ⟨q28, c28, hf⟩ := br_b hf
      refine x_callV (k := 1) (As := [.int x1, .int x5, .int x4]) (rest := []) (st1 := [.int q28]) X hR (ctX8_wayOver_t c28) ml_X1_89 im_X8_wayOver se_X8_wayOver in_X8 co_X8_wayOver yo_X8_wayOver rfl kX8 (z_1 true) (rm_ok (by decide) (by decide)) rfl hl.1 rfl rfl (Nat.le_of_ble_eq_true rfl) dX1_markWithin_28 ⟨Nat.zero_le _, Nat.zero_le _⟩ (fun H locs hR => ?_)
      refine lv_iload_n hx hb dX1_markWithin_31 rfl (lv_at hl 2 rfl) ?_
      refine lv_icmp_le (tgt := 41) hx hb dX1_markWithin_32 (by decide) (fun q32 => ?_) (fun q32 => ?_)
      · have hf := (br_if hf).1 q32
        exact hk41 hf hR hl
      · have hf := (br_if hf).2 q32
        obtain ⟨v35, e35⟩ : ∃ y : Int32, y = (x4 + (-1 : Int32)) := ⟨_, rfl⟩
        have hf := nx_at e35 hf
        refine lv_iinc (v := v35) (lv' := [(4, .int v35), (0, .ref (eB E + 141)), (1, .int x1), (2, .int x2), (3, .ref (eB E + 142)), (5, .int x5)]) hx hb dX1_markWithin_35 hl (k := 4) rfl (by rw [e35]; rfl) (by decide) rfl (fun ls hl => ?_)
        refine lv_goto (tgt := 14) hx hb dX1_markWithin_38 (by decide) ?_
        exact ih hf hR (lv_sub hl [1, 2, 3, 4, 0, 5] rfl)
set_option maxHeartbeats 4000000 in
set_option maxRecDepth 100000 in
theorem wX1_markWithin_142_92 {M1 : Mem} {k7 : Int32 → Int32 → Int32 → Int32 → Mem → Option Mem} {k46 : Mem → Option Mem} {k98 : Mem → Option Mem} (X : CX E p s m args c meth cX1_markWithin 6 none RX1) (hk7 : ∀ {x1 : Int32} {x2 : Int32} {x4 : Int32} {x5 : Int32} {M : Mem} {H : Heap} {locs : List Loc} {ls : Array Slot}, k7 x1 x2 x4 x5 M = some M1 → Rl E (sh_ true) (nn true) s.heap M H locs → lv_has ls 6 [(0, .ref (eB E + 141)), (1, .int x1), (2, .int x2), (3, .ref (eB E + 142)), (4, .int x4), (5, .int x5)] → W p l e (rm 3 0 0) s m args below meth c H locs 0 0 (MQ below (qq E none (sh_ true) (nn true) M1) args s 0 0 (fr E)) (F0 m 7 ls [])) (hk46 : ∀ {M : Mem} {H : Heap} {locs : List Loc} {ls : Array Slot}, k46 M = some M1 → Rl E (sh_ true) (nn true) s.heap M H locs → lv_has ls 6 [] → W p l e (rm 3 0 0) s m args below meth c H locs 0 0 (MQ below (qq E none (sh_ true) (nn true) M1) args s 0 0 (fr E)) (F0 m 46 ls [])) (hk98 : ∀ {M : Mem} {H : Heap} {locs : List Loc} {ls : Array Slot}, k98 M = some M1 → Rl E (sh_ true) (nn true) s.heap M H locs → lv_has ls 6 [] → W p l e (rm 3 0 0) s m args below meth c H locs 0 0 (MQ below (qq E none (sh_ true) (nn true) M1) args s 0 0 (fr E)) (F0 m 98 ls [])) : ∀ {x1 : Int32} {x2 : Int32} {x4 : Int32} {x5 : Int32} {M : Mem} {H : Heap} {locs : List Loc} {ls : Array Slot}, fX1_markWithin_142_92 k7 k46 k98 x1 x2 x4 x5 M = some M1 → Rl E (sh_ true) (nn true) s.heap M H locs → lv_has ls 6 [(0, .ref (eB E + 141)), (1, .int x1), (2, .int x2), (3, .ref (eB E + 142)), (4, .int x4), (5, .int x5)] → W p l e (rm 3 0 0) s m args below meth c H locs 0 0 (MQ below (qq E none (sh_ true) (nn true) M1) args s 0 0 (fr E)) (F0 m 92 ls []) := by
  obtain ⟨hx, hb, hr, hml, hown, hts, hK, hN, hO, hlk, hbs⟩ := id X
  intro x1 x2 x4 x5 M H locs ls hf hR hl
  unfold fX1_markWithin_142_92 at hf
  obtain ⟨v92, e92⟩ : ∃ y : Int32, y = (x5 + (1 : Int32)) := ⟨_, rfl⟩
  have hf := nx_at e92 hf
  refine lv_iinc (v := v92) (lv' := [(5, .int v92), (0, .ref (eB E + 141)), (1, .int x1), (2, .int x2), (3, .ref (eB E + 142)), (4, .int x4)]) hx hb dX1_markWithin_92 hl (k := 5) rfl (by rw [e92]; rfl) (by decide) rfl (fun ls hl => ?_)
  refine lv_goto (tgt := 7) hx hb dX1_markWithin_95 (by decide) ?_
  exact hk7 hf hR (lv_sub hl [1, 2, 3, 4, 5, 0] rfl)
set_option maxHeartbeats 4000000 in
set_option maxRecDepth 100000 in
theorem wX1_markWithin_142_41 {M1 : Mem} {k7 : Int32 → Int32 → Int32 → Int32 → Mem → Option Mem} {k46 : Mem → Option Mem} {k98 : Mem → Option Mem} (X : CX E p s m args c meth cX1_markWithin 6 none RX1) (hk7 : ∀ {x1 : Int32} {x2 : Int32} {x4 : Int32} {x5 : Int32} {M : Mem} {H : Heap} {locs : List Loc} {ls : Array Slot}, k7 x1 x2 x4 x5 M = some M1 → Rl E (sh_ true) (nn true) s.heap M H locs → lv_has ls 6 [(0, .ref (eB E + 141)), (1, .int x1), (2, .int x2), (3, .ref (eB E + 142)), (4, .int x4), (5, .int x5)] → W p l e (rm 3 0 0) s m args below meth c H locs 0 0 (MQ below (qq E none (sh_ true) (nn true) M1) args s 0 0 (fr E)) (F0 m 7 ls [])) (hk46 : ∀ {M : Mem} {H : Heap} {locs : List Loc} {ls : Array Slot}, k46 M = some M1 → Rl E (sh_ true) (nn true) s.heap M H locs → lv_has ls 6 [] → W p l e (rm 3 0 0) s m args below meth c H locs 0 0 (MQ below (qq E none (sh_ true) (nn true) M1) args s 0 0 (fr E)) (F0 m 46 ls [])) (hk98 : ∀ {M : Mem} {H : Heap} {locs : List Loc} {ls : Array Slot}, k98 M = some M1 → Rl E (sh_ true) (nn true) s.heap M H locs → lv_has ls 6 [] → W p l e (rm 3 0 0) s m args below meth c H locs 0 0 (MQ below (qq E none (sh_ true) (nn true) M1) args s 0 0 (fr E)) (F0 m 98 ls [])) : ∀ {x1 : Int32} {x2 : Int32} {x4 : Int32} {x5 : Int32} {M : Mem} {H : Heap} {locs : List Loc} {ls : Array Slot}, fX1_markWithin_142_41 k7 k46 k98 x1 x2 x4 x5 M = some M1 → Rl E (sh_ true) (nn true) s.heap M H locs → lv_has ls 6 [(0, .ref (eB E + 141)), (1, .int x1), (2, .int x2), (3, .ref (eB E + 142)), (4, .int x4), (5, .int x5)] → W p l e (rm 3 0 0) s m args below meth c H locs 0 0 (MQ below (qq E none (sh_ true) (nn true) M1) args s 0 0 (fr E)) (F0 m 41 ls []) := by
  obtain ⟨hx, hb, hr, hml, hown, hts, hK, hN, hO, hlk, hbs⟩ := id X
  intro x1 x2 x4 x5 M H locs ls hf hR hl
  unfold fX1_markWithin_142_41 at hf
  refine lv_iload hx hb dX1_markWithin_41 (lv_at hl 4 rfl) ?_
  refine lv_if_ge (tgt := 47) hx hb dX1_markWithin_43 (by decide) (fun q43 => ?_) (fun q43 => ?_)
  · have hf := (br_if hf).1 q43
    refine lv_aload_n hx hb dX1_markWithin_47 rfl (lv_at hl 0 rfl) ?_
    refine lv_iload_n hx hb dX1_markWithin_48 rfl (lv_at hl 1 rfl) ?_
    refine lv_aload_n hx hb dX1_markWithin_49 rfl (lv_at hl 0 rfl) ?_
    refine x_get hx hb hown hts hK hR kX1 z_141 (j := 0) (by decide) fl_X1_38 (v := .ref (eB E + 1)) rfl dX1_markWithin_50 ?_
    refine x_get hx hb hown hts hK hR kX8 (z_1 true) (j := 1) (by decide) fl_X1_92 (v := .ref (eB E + 2)) rfl dX1_markWithin_53 ?_
    refine lv_iload_n hx hb dX1_markWithin_56 rfl (lv_at hl 1 rfl) ?_
    obtain ⟨g57, hf⟩ := br_g hf
    refine x_iald hx hb hK hR (z_2 true) g57 dX1_markWithin_57 ?_
    refine lv_iload hx hb dX1_markWithin_58 (lv_at hl 5 rfl) ?_
    refine lv_iadd hx hb dX1_markWithin_60 ?_
    refine lv_iload hx hb dX1_markWithin_61 (lv_at hl 4 rfl) ?_
    refine lv_aload_n hx hb dX1_markWithin_63 rfl (lv_at hl 3 rfl) ?_
    obtain ⟨q64, c64, hf⟩ := br_b hf
    refine x_callV (k := 141) (As := [.int x1, .int ((M.1 2 (ix x1)) + x5), .int x4, .ref (eB E + 142)]) (rest := []) (st1 := []) X hR (ctX1_markColumn_142 c64) ml_X1_95 im_X1_markColumn se_X1_markColumn in_X1 co_X1_markColumn yo_X1_markColumn rfl kX1 z_141 (rm_ok (by decide) (by decide)) rfl hl.1 rfl rfl (Nat.le_of_ble_eq_true rfl) dX1_markWithin_64 ⟨Nat.zero_le _, Nat.zero_le _⟩ (fun H locs hR => ?_)
    refine lv_iload hx hb dX1_markWithin_67 (lv_at hl 5 rfl) ?_
    refine lv_if_le (tgt := 92) hx hb dX1_markWithin_69 (by decide) (fun q69 => ?_) (fun q69 => ?_)
    · have hf := (br_if hf).1 q69
      exact wX1_markWithin_142_92 X (fun hf hR hl => hk7 hf hR hl) (fun hf hR hl => hk46 hf hR hl) (fun hf hR hl => hk98 hf hR hl) hf hR hl
    · have hf := (br_if hf).2 q69
      refine lv_aload_n hx hb dX1_markWithin_72 rfl (lv_at hl 0 rfl) ?_
      refine lv_iload_n hx hb dX1_markWithin_73 rfl (lv_at hl 1 rfl) ?_
      refine lv_aload_n hx hb dX1_markWithin_74 rfl (lv_at hl 0 rfl) ?_
      refine x_get hx hb hown hts hK hR kX1 z_141 (j := 0) (by decide) fl_X1_38 (v := .ref (eB E + 1)) rfl dX1_markWithin_75 ?_
      refine x_get hx hb hown hts hK hR kX8 (z_1 true) (j := 1) (by decide) fl_X1_92 (v := .ref (eB E + 2)) rfl dX1_markWithin_78 ?_
      refine lv_iload_n hx hb dX1_markWithin_81 rfl (lv_at hl 1 rfl) ?_
      obtain ⟨g82, hf⟩ := br_g hf
      refine x_iald hx hb hK hR (z_2 true) g82 dX1_markWithin_82 ?_
      refine lv_iload hx hb dX1_markWithin_83 (lv_at hl 5 rfl) ?_
      refine lv_isub hx hb dX1_markWithin_85 ?_
      refine lv_iload hx hb dX1_markWithin_86 (lv_at hl 4 rfl) ?_
      refine lv_aload_n hx hb dX1_markWithin_88 rfl (lv_at hl 3 rfl) ?_
      obtain ⟨q89, c89, hf⟩ := br_b hf
      refine x_callV (k := 141) (As := [.int x1, .int ((q64.1 2 (ix x1)) - x5), .int x4, .ref (eB E + 142)]) (rest := []) (st1 := []) X hR (ctX1_markColumn_142 c89) ml_X1_95 im_X1_markColumn se_X1_markColumn in_X1 co_X1_markColumn yo_X1_markColumn rfl kX1 z_141 (rm_ok (by decide) (by decide)) rfl hl.1 rfl rfl (Nat.le_of_ble_eq_true rfl) dX1_markWithin_89 ⟨Nat.zero_le _, Nat.zero_le _⟩ (fun H locs hR => ?_)
      exact wX1_markWithin_142_92 X (fun hf hR hl => hk7 hf hR hl) (fun hf hR hl => hk46 hf hR hl) (fun hf hR hl => hk98 hf hR hl) hf hR hl
  · have hf := (br_if hf).2 q43
    exact hk46 hf hR (lv_sub hl [] rfl)
set_option maxHeartbeats 4000000 in
set_option maxRecDepth 100000 in
theorem wX1_markWithin_142_7 {M1 : Mem} {k46 : Mem → Option Mem} {k98 : Mem → Option Mem} (X : CX E p s m args c meth cX1_markWithin 6 none RX1) (hk46 : ∀ {M : Mem} {H : Heap} {locs : List Loc} {ls : Array Slot}, k46 M = some M1 → Rl E (sh_ true) (nn true) s.heap M H locs → lv_has ls 6 [] → W p l e (rm 3 0 0) s m args below meth c H locs 0 0 (MQ below (qq E none (sh_ true) (nn true) M1) args s 0 0 (fr E)) (F0 m 46 ls [])) (hk98 : ∀ {M : Mem} {H : Heap} {locs : List Loc} {ls : Array Slot}, k98 M = some M1 → Rl E (sh_ true) (nn true) s.heap M H locs → lv_has ls 6 [] → W p l e (rm 3 0 0) s m args below meth c H locs 0 0 (MQ below (qq E none (sh_ true) (nn true) M1) args s 0 0 (fr E)) (F0 m 98 ls [])) : ∀ (n : Nat) {x1 : Int32} {x2 : Int32} {x4 : Int32} {x5 : Int32} {M : Mem} {H : Heap} {locs : List Loc} {ls : Array Slot}, fX1_markWithin_142_7 k46 k98 n x1 x2 x4 x5 M = some M1 → Rl E (sh_ true) (nn true) s.heap M H locs → lv_has ls 6 [(0, .ref (eB E + 141)), (1, .int x1), (2, .int x2), (3, .ref (eB E + 142)), (4, .int x4), (5, .int x5)] → W p l e (rm 3 0 0) s m args below meth c H locs 0 0 (MQ below (qq E none (sh_ true) (nn true) M1) args s 0 0 (fr E)) (F0 m 7 ls []) := by
  obtain ⟨hx, hb, hr, hml, hown, hts, hK, hN, hO, hlk, hbs⟩ := id X
  intro n
  induction n with
  | zero =>
    intro x1 x2 x4 x5 M H locs ls hf hR hl
    exact absurd (show none = some _ from hf) (fun h => by cases h)
  | succ n ih =>
    intro x1 x2 x4 x5 M H locs ls hf hR hl
    rw [fX1_markWithin_142_7] at hf
    refine lv_iload hx hb dX1_markWithin_7 (lv_at hl 5 rfl) ?_
    refine lv_bipush (v := 100) hx hb dX1_markWithin_9 (by decide) ?_
    refine lv_icmp_ge (tgt := 98) hx hb dX1_markWithin_11 (by decide) (fun q11 => ?_) (fun q11 => ?_)
    · have hf := (br_if hf).1 q11
      exact hk98 hf hR (lv_sub hl [] rfl)
    · have hf := (br_if hf).2 q11
      exact wX1_markWithin_142_14 X (fun hf hR hl => wX1_markWithin_142_41 X (fun hf hR hl => ih hf hR hl) (fun hf hR hl => hk46 hf hR hl) (fun hf hR hl => hk98 hf hR hl) hf hR hl) FU hf hR hl
set_option maxHeartbeats 4000000 in
set_option maxRecDepth 100000 in
theorem wX1_markWithin_142_46 {M1 : Mem} (X : CX E p s m args c meth cX1_markWithin 6 none RX1) : ∀ {M : Mem} {H : Heap} {locs : List Loc} {ls : Array Slot}, fX1_markWithin_142_46 M = some M1 → Rl E (sh_ true) (nn true) s.heap M H locs → lv_has ls 6 [] → W p l e (rm 3 0 0) s m args below meth c H locs 0 0 (MQ below (qq E none (sh_ true) (nn true) M1) args s 0 0 (fr E)) (F0 m 46 ls []) := by
  obtain ⟨hx, hb, hr, hml, hown, hts, hK, hN, hO, hlk, hbs⟩ := id X
  intro M H locs ls hf hR hl
  unfold fX1_markWithin_142_46 at hf
  cases hf
  exact x_vret hx hb hr hlk hR dX1_markWithin_46
set_option maxHeartbeats 4000000 in
set_option maxRecDepth 100000 in
theorem wX1_markWithin_142_98 {M1 : Mem} (X : CX E p s m args c meth cX1_markWithin 6 none RX1) : ∀ {M : Mem} {H : Heap} {locs : List Loc} {ls : Array Slot}, fX1_markWithin_142_98 M = some M1 → Rl E (sh_ true) (nn true) s.heap M H locs → lv_has ls 6 [] → W p l e (rm 3 0 0) s m args below meth c H locs 0 0 (MQ below (qq E none (sh_ true) (nn true) M1) args s 0 0 (fr E)) (F0 m 98 ls []) := by
  obtain ⟨hx, hb, hr, hml, hown, hts, hK, hN, hO, hlk, hbs⟩ := id X
  intro M H locs ls hf hR hl
  unfold fX1_markWithin_142_98 at hf
  cases hf
  exact x_vret hx hb hr hlk hR dX1_markWithin_98
set_option maxHeartbeats 4000000 in
set_option maxRecDepth 100000 in
theorem wX1_markWithin_142_0 {M1 : Mem} (X : CX E p s m args c meth cX1_markWithin 6 none RX1) : ∀ {x1 : Int32} {x2 : Int32} {M : Mem} {H : Heap} {locs : List Loc} {ls : Array Slot}, fX1_markWithin_142 x1 x2 M = some M1 → Rl E (sh_ true) (nn true) s.heap M H locs → lv_has ls 6 [(0, .ref (eB E + 141)), (1, .int x1), (2, .int x2), (3, .ref (eB E + 142))] → W p l e (rm 3 0 0) s m args below meth c H locs 0 0 (MQ below (qq E none (sh_ true) (nn true) M1) args s 0 0 (fr E)) (F0 m 0 ls []) := by
  obtain ⟨hx, hb, hr, hml, hown, hts, hK, hN, hO, hlk, hbs⟩ := id X
  intro x1 x2 M H locs ls hf hR hl
  unfold fX1_markWithin_142 at hf
  refine lv_bipush (v := 99) hx hb dX1_markWithin_0 (by decide) ?_
  refine lv_istore (lv' := [(4, .int (99 : Int32)), (0, .ref (eB E + 141)), (1, .int x1), (2, .int x2), (3, .ref (eB E + 142))]) hx hb dX1_markWithin_2 hl (by decide) rfl (fun ls hl => ?_)
  refine lv_iconst (v := 0) hx hb dX1_markWithin_4 (by decide) ?_
  refine lv_istore (lv' := [(5, .int (0 : Int32)), (4, .int (99 : Int32)), (0, .ref (eB E + 141)), (1, .int x1), (2, .int x2), (3, .ref (eB E + 142))]) hx hb dX1_markWithin_5 hl (by decide) rfl (fun ls hl => ?_)
  exact wX1_markWithin_142_7 X (fun hf hR hl => wX1_markWithin_142_46 X hf hR hl) (fun hf hR hl => wX1_markWithin_142_98 X hf hR hl) FU hf hR (lv_sub hl [2, 3, 4, 5, 1, 0] rfl)
theorem ctX1_markWithin_142 {l : Launch} {E : Ge} {M : Mem} {x1 : Int32} {x2 : Int32} {M1 : Mem} (h : fX1_markWithin_142 x1 x2 M = some M1) : CT l E yX1_markWithin cX1_markWithin 6 none 3 0 0 [.ref (eB E + 141), .int x1, .int x2, .ref (eB E + 142)] none (sh_ true) (nn true) M (sh_ true) (nn true) M1 := by
  refine met_of (by decide) (Nat.le_of_ble_eq_true rfl) ?_
  intro p e s m args below meth c X _ hR ls hl
  exact wX1_markWithin_142_0 X h hR hl
def fX1_markColumn_143_10 (M : Mem) : Option Mem := some M
def fX1_markColumn_143_94 (M : Mem) : Option Mem := some M
def fX1_markColumn_143 (x1 : Int32) (x2 : Int32) (x3 : Int32) (M : Mem) : Option Mem := (if x2 < 0 then fX1_markColumn_143_10 M else (if x2 < (100 : Int32) then (if inb x1 15 = true then nx (imax (0 : Int32) ((M.1 3 (ix x1)) - x3)) (fun v26 => (if inb x1 15 = true then nx (((M.1 3 (ix x1)) + x3) + (1 : Int32)) (fun v41 => (if inb ((x2 * (100 : Int32)) + v26) 10000 = true then (if inb x1 15 = true then (if inb ((x2 * (100 : Int32)) + v26) 10000 = true then nx (sI M 143 (ix ((x2 * (100 : Int32)) + v26)) ((M.1 143 (ix ((x2 * (100 : Int32)) + v26))) + (M.1 4 (ix x1)))) (fun M64 => (if (100 : Int32) ≤ v41 then fX1_markColumn_143_94 M64 else (if inb ((x2 * (100 : Int32)) + v41) 10000 = true then (if inb x1 15 = true then (if inb ((x2 * (100 : Int32)) + v41) 10000 = true then nx (sI M64 143 (ix ((x2 * (100 : Int32)) + v41)) ((M64.1 143 (ix ((x2 * (100 : Int32)) + v41))) - (M64.1 4 (ix x1)))) (fun M93 => fX1_markColumn_143_94 M93) else none) else none) else none))) else none) else none) else none)) else none)) else none) else fX1_markColumn_143_10 M))
set_option maxHeartbeats 4000000 in
set_option maxRecDepth 100000 in
theorem wX1_markColumn_143_10 {M1 : Mem} (X : CX E p s m args c meth cX1_markColumn 7 none RX1) : ∀ {M : Mem} {H : Heap} {locs : List Loc} {ls : Array Slot}, fX1_markColumn_143_10 M = some M1 → Rl E (sh_ true) (nn true) s.heap M H locs → lv_has ls 7 [] → W p l e (rm 2 0 0) s m args below meth c H locs 0 0 (MQ below (qq E none (sh_ true) (nn true) M1) args s 0 0 (fr E)) (F0 m 10 ls []) := by
  obtain ⟨hx, hb, hr, hml, hown, hts, hK, hN, hO, hlk, hbs⟩ := id X
  intro M H locs ls hf hR hl
  unfold fX1_markColumn_143_10 at hf
  cases hf
  exact x_vret hx hb hr hlk hR dX1_markColumn_10
set_option maxHeartbeats 4000000 in
set_option maxRecDepth 100000 in
theorem wX1_markColumn_143_94 {M1 : Mem} (X : CX E p s m args c meth cX1_markColumn 7 none RX1) : ∀ {M : Mem} {H : Heap} {locs : List Loc} {ls : Array Slot}, fX1_markColumn_143_94 M = some M1 → Rl E (sh_ true) (nn true) s.heap M H locs → lv_has ls 7 [] → W p l e (rm 2 0 0) s m args below meth c H locs 0 0 (MQ below (qq E none (sh_ true) (nn true) M1) args s 0 0 (fr E)) (F0 m 94 ls []) := by
  obtain ⟨hx, hb, hr, hml, hown, hts, hK, hN, hO, hlk, hbs⟩ := id X
  intro M H locs ls hf hR hl
  unfold fX1_markColumn_143_94 at hf
  cases hf
  exact x_vret hx hb hr hlk hR dX1_markColumn_94
set_option maxHeartbeats 4000000 in
set_option maxRecDepth 100000 in
theorem wX1_markColumn_143_0 {M1 : Mem} (X : CX E p s m args c meth cX1_markColumn 7 none RX1) : ∀ {x1 : Int32} {x2 : Int32} {x3 : Int32} {M : Mem} {H : Heap} {locs : List Loc} {ls : Array Slot}, fX1_markColumn_143 x1 x2 x3 M = some M1 → Rl E (sh_ true) (nn true) s.heap M H locs → lv_has ls 7 [(0, .ref (eB E + 141)), (1, .int x1), (2, .int x2), (3, .int x3), (4, .ref (eB E + 143))] → W p l e (rm 2 0 0) s m args below meth c H locs 0 0 (MQ below (qq E none (sh_ true) (nn true) M1) args s 0 0 (fr E)) (F0 m 0 ls []) := by
  obtain ⟨hx, hb, hr, hml, hown, hts, hK, hN, hO, hlk, hbs⟩ := id X
  intro x1 x2 x3 M H locs ls hf hR hl
  unfold fX1_markColumn_143 at hf
  refine lv_iload_n hx hb dX1_markColumn_0 rfl (lv_at hl 2 rfl) ?_
  refine lv_if_lt (tgt := 10) hx hb dX1_markColumn_1 (by decide) (fun q1 => ?_) (fun q1 => ?_)
  · have hf := (br_if hf).1 q1
    exact wX1_markColumn_143_10 X hf hR (lv_sub hl [] rfl)
  · have hf := (br_if hf).2 q1
    refine lv_iload_n hx hb dX1_markColumn_4 rfl (lv_at hl 2 rfl) ?_
    refine lv_bipush (v := 100) hx hb dX1_markColumn_5 (by decide) ?_
    refine lv_icmp_lt (tgt := 11) hx hb dX1_markColumn_7 (by decide) (fun q7 => ?_) (fun q7 => ?_)
    · have hf := (br_if hf).1 q7
      refine lv_iconst (v := 0) hx hb dX1_markColumn_11 (by decide) ?_
      refine lv_aload_n hx hb dX1_markColumn_12 rfl (lv_at hl 0 rfl) ?_
      refine x_get hx hb hown hts hK hR kX1 z_141 (j := 0) (by decide) fl_X1_38 (v := .ref (eB E + 1)) rfl dX1_markColumn_13 ?_
      refine x_get hx hb hown hts hK hR kX8 (z_1 true) (j := 2) (by decide) fl_X1_99 (v := .ref (eB E + 3)) rfl dX1_markColumn_16 ?_
      refine lv_iload_n hx hb dX1_markColumn_19 rfl (lv_at hl 1 rfl) ?_
      obtain ⟨g20, hf⟩ := br_g hf
      refine x_iald hx hb hK hR (z_3 true) g20 dX1_markColumn_20 ?_
      refine lv_iload_n hx hb dX1_markColumn_21 rfl (lv_at hl 3 rfl) ?_
      refine lv_isub hx hb dX1_markColumn_22 ?_
      refine va_mmax hx hb (by rw [hml]; exact hl.1.symm) hown (hts _ ml_X1_62) (hts _ st_max) (hts _ in_J9) (hts _ co_max) (by decide) (Nat.le_of_ble_eq_true rfl) (Nat.zero_le _) (Nat.zero_le _) dX1_markColumn_23 ?_
      refine W.eq (g2 := F0 m 26 ls [.int (imax (0 : Int32) ((M.1 3 (ix x1)) - x3))]) rfl ?_
      refine lv_topi (fun v26 e26 => ?_)
      have hf := nx_at e26 hf
      refine lv_istore (lv' := [(5, .int v26), (0, .ref (eB E + 141)), (1, .int x1), (2, .int x2), (3, .int x3), (4, .ref (eB E + 143))]) hx hb dX1_markColumn_26 hl (by decide) rfl (fun ls hl => ?_)
      refine lv_aload_n hx hb dX1_markColumn_28 rfl (lv_at hl 1 rfl) ?_
      refine x_get hx hb hown hts hK hR kX1 z_141 (j := 0) (by decide) fl_X1_38 (v := .ref (eB E + 1)) rfl dX1_markColumn_29 ?_
      refine x_get hx hb hown hts hK hR kX8 (z_1 true) (j := 2) (by decide) fl_X1_99 (v := .ref (eB E + 3)) rfl dX1_markColumn_32 ?_
      refine lv_iload_n hx hb dX1_markColumn_35 rfl (lv_at hl 2 rfl) ?_
      obtain ⟨g36, hf⟩ := br_g hf
      refine x_iald hx hb hK hR (z_3 true) g36 dX1_markColumn_36 ?_
      refine lv_iload_n hx hb dX1_markColumn_37 rfl (lv_at hl 4 rfl) ?_
      refine lv_iadd hx hb dX1_markColumn_38 ?_
      refine lv_iconst (v := 1) hx hb dX1_markColumn_39 (by decide) ?_
      refine lv_iadd hx hb dX1_markColumn_40 ?_
      refine lv_topi (fun v41 e41 => ?_)
      have hf := nx_at e41 hf
      refine lv_istore (lv' := [(6, .int v41), (5, .int v26), (0, .ref (eB E + 141)), (1, .int x1), (2, .int x2), (3, .int x3), (4, .ref (eB E + 143))]) hx hb dX1_markColumn_41 hl (by decide) rfl (fun ls hl => ?_)
      refine lv_aload hx hb dX1_markColumn_43 (lv_at hl 6 rfl) ?_
      refine lv_iload_n hx hb dX1_markColumn_45 rfl (lv_at hl 4 rfl) ?_
      refine lv_bipush (v := 100) hx hb dX1_markColumn_46 (by decide) ?_
      refine lv_imul hx hb dX1_markColumn_48 ?_
      refine lv_iload hx hb dX1_markColumn_49 (lv_at hl 1 rfl) ?_
      refine lv_iadd hx hb dX1_markColumn_51 ?_
      refine lv_dup2_11 hx hb dX1_markColumn_52 rfl rfl ?_
      obtain ⟨g53, hf⟩ := br_g hf
      refine x_iald hx hb hK hR z_143 g53 dX1_markColumn_53 ?_
      refine lv_aload_n hx hb dX1_markColumn_54 rfl (lv_at hl 2 rfl) ?_
      refine x_get hx hb hown hts hK hR kX1 z_141 (j := 0) (by decide) fl_X1_38 (v := .ref (eB E + 1)) rfl dX1_markColumn_55 ?_
      refine x_get hx hb hown hts hK hR kX8 (z_1 true) (j := 3) (by decide) fl_X1_102 (v := .ref (eB E + 4)) rfl dX1_markColumn_58 ?_
      refine lv_iload_n hx hb dX1_markColumn_61 rfl (lv_at hl 3 rfl) ?_
      obtain ⟨g62, hf⟩ := br_g hf
      refine x_iald hx hb hK hR (z_4 true) g62 dX1_markColumn_62 ?_
      refine lv_iadd hx hb dX1_markColumn_63 ?_
      obtain ⟨g64, hf⟩ := br_g hf
      refine x_iast hx hb hK hR z_143 g64 dX1_markColumn_64 (fun H locs hR => ?_)
      obtain ⟨M64, e64⟩ : ∃ y : Mem, y = (sI M 143 (ix ((x2 * (100 : Int32)) + v26)) ((M.1 143 (ix ((x2 * (100 : Int32)) + v26))) + (M.1 4 (ix x1)))) := ⟨_, rfl⟩
      have hf := nx_at e64 hf
      have hR : Rl E (sh_ true) (nn true) s.heap M64 H locs := by rw [e64]; exact hR
      refine lv_iload hx hb dX1_markColumn_65 (lv_at hl 0 rfl) ?_
      refine lv_bipush (v := 100) hx hb dX1_markColumn_67 (by decide) ?_
      refine lv_icmp_ge (tgt := 94) hx hb dX1_markColumn_69 (by decide) (fun q69 => ?_) (fun q69 => ?_)
      · have hf := (br_if hf).1 q69
        exact wX1_markColumn_143_94 X hf hR (lv_sub hl [] rfl)
      · have hf := (br_if hf).2 q69
        refine lv_aload hx hb dX1_markColumn_72 (lv_at hl 6 rfl) ?_
        refine lv_iload_n hx hb dX1_markColumn_74 rfl (lv_at hl 4 rfl) ?_
        refine lv_bipush (v := 100) hx hb dX1_markColumn_75 (by decide) ?_
        refine lv_imul hx hb dX1_markColumn_77 ?_
        refine lv_iload hx hb dX1_markColumn_78 (lv_at hl 0 rfl) ?_
        refine lv_iadd hx hb dX1_markColumn_80 ?_
        refine lv_dup2_11 hx hb dX1_markColumn_81 rfl rfl ?_
        obtain ⟨g82, hf⟩ := br_g hf
        refine x_iald hx hb hK hR z_143 g82 dX1_markColumn_82 ?_
        refine lv_aload_n hx hb dX1_markColumn_83 rfl (lv_at hl 2 rfl) ?_
        refine x_get hx hb hown hts hK hR kX1 z_141 (j := 0) (by decide) fl_X1_38 (v := .ref (eB E + 1)) rfl dX1_markColumn_84 ?_
        refine x_get hx hb hown hts hK hR kX8 (z_1 true) (j := 3) (by decide) fl_X1_102 (v := .ref (eB E + 4)) rfl dX1_markColumn_87 ?_
        refine lv_iload_n hx hb dX1_markColumn_90 rfl (lv_at hl 3 rfl) ?_
        obtain ⟨g91, hf⟩ := br_g hf
        refine x_iald hx hb hK hR (z_4 true) g91 dX1_markColumn_91 ?_
        refine lv_isub hx hb dX1_markColumn_92 ?_
        obtain ⟨g93, hf⟩ := br_g hf
        refine x_iast hx hb hK hR z_143 g93 dX1_markColumn_93 (fun H locs hR => ?_)
        obtain ⟨M93, e93⟩ : ∃ y : Mem, y = (sI M64 143 (ix ((x2 * (100 : Int32)) + v41)) ((M64.1 143 (ix ((x2 * (100 : Int32)) + v41))) - (M64.1 4 (ix x1)))) := ⟨_, rfl⟩
        have hf := nx_at e93 hf
        have hR : Rl E (sh_ true) (nn true) s.heap M93 H locs := by rw [e93]; exact hR
        exact wX1_markColumn_143_94 X hf hR (lv_sub hl [] rfl)
    · have hf := (br_if hf).2 q7
      exact wX1_markColumn_143_10 X hf hR (lv_sub hl [] rfl)
theorem ctX1_markColumn_143 {l : Launch} {E : Ge} {M : Mem} {x1 : Int32} {x2 : Int32} {x3 : Int32} {M1 : Mem} (h : fX1_markColumn_143 x1 x2 x3 M = some M1) : CT l E yX1_markColumn cX1_markColumn 7 none 2 0 0 [.ref (eB E + 141), .int x1, .int x2, .int x3, .ref (eB E + 143)] none (sh_ true) (nn true) M (sh_ true) (nn true) M1 := by
  refine met_of (by decide) (Nat.le_of_ble_eq_true rfl) ?_
  intro p e s m args below meth c X _ hR ls hl
  exact wX1_markColumn_143_0 X h hR hl
def fX1_markWithin_143_14 (k41 : Int32 → Int32 → Int32 → Int32 → Mem → Option Mem) : Nat → Int32 → Int32 → Int32 → Int32 → Mem → Option Mem
  | 0, _, _, _, _, _ => none
  | n + 1, x1, x2, x4, x5, M => (if x4 < 0 then k41 x1 x2 x4 x5 M else (fX8_wayOver_t M x1 x5 x4).bind (fun q28 => (if q28 ≤ x2 then k41 x1 x2 x4 x5 M else nx (x4 + (-1 : Int32)) (fun v35 => fX1_markWithin_143_14 k41 n x1 x2 v35 x5 M))))
def fX1_markWithin_143_92 (k7 : Int32 → Int32 → Int32 → Int32 → Mem → Option Mem) (k46 : Mem → Option Mem) (k98 : Mem → Option Mem) (x1 : Int32) (x2 : Int32) (x4 : Int32) (x5 : Int32) (M : Mem) : Option Mem := nx (x5 + (1 : Int32)) (fun v92 => k7 x1 x2 x4 v92 M)
def fX1_markWithin_143_41 (k7 : Int32 → Int32 → Int32 → Int32 → Mem → Option Mem) (k46 : Mem → Option Mem) (k98 : Mem → Option Mem) (x1 : Int32) (x2 : Int32) (x4 : Int32) (x5 : Int32) (M : Mem) : Option Mem := (if 0 ≤ x4 then (if inb x1 15 = true then (fX1_markColumn_143 x1 ((M.1 2 (ix x1)) + x5) x4 M).bind (fun q64 => (if x5 ≤ 0 then fX1_markWithin_143_92 k7 k46 k98 x1 x2 x4 x5 q64 else (if inb x1 15 = true then (fX1_markColumn_143 x1 ((q64.1 2 (ix x1)) - x5) x4 q64).bind (fun q89 => fX1_markWithin_143_92 k7 k46 k98 x1 x2 x4 x5 q89) else none))) else none) else k46 M)
def fX1_markWithin_143_7 (k46 : Mem → Option Mem) (k98 : Mem → Option Mem) : Nat → Int32 → Int32 → Int32 → Int32 → Mem → Option Mem
  | 0, _, _, _, _, _ => none
  | n + 1, x1, x2, x4, x5, M => (if (100 : Int32) ≤ x5 then k98 M else fX1_markWithin_143_14 (fX1_markWithin_143_41 (fX1_markWithin_143_7 k46 k98 n) k46 k98) FU x1 x2 x4 x5 M)
def fX1_markWithin_143_46 (M : Mem) : Option Mem := some M
def fX1_markWithin_143_98 (M : Mem) : Option Mem := some M
def fX1_markWithin_143 (x1 : Int32) (x2 : Int32) (M : Mem) : Option Mem := fX1_markWithin_143_7 fX1_markWithin_143_46 fX1_markWithin_143_98 FU x1 x2 (99 : Int32) (0 : Int32) M
set_option maxHeartbeats 4000000 in
set_option maxRecDepth 100000 in
theorem wX1_markWithin_143_14 {M1 : Mem} {k41 : Int32 → Int32 → Int32 → Int32 → Mem → Option Mem} (X : CX E p s m args c meth cX1_markWithin 6 none RX1) (hk41 : ∀ {x1 : Int32} {x2 : Int32} {x4 : Int32} {x5 : Int32} {M : Mem} {H : Heap} {locs : List Loc} {ls : Array Slot}, k41 x1 x2 x4 x5 M = some M1 → Rl E (sh_ true) (nn true) s.heap M H locs → lv_has ls 6 [(0, .ref (eB E + 141)), (1, .int x1), (2, .int x2), (3, .ref (eB E + 143)), (4, .int x4), (5, .int x5)] → W p l e (rm 3 0 0) s m args below meth c H locs 0 0 (MQ below (qq E none (sh_ true) (nn true) M1) args s 0 0 (fr E)) (F0 m 41 ls [])) : ∀ (n : Nat) {x1 : Int32} {x2 : Int32} {x4 : Int32} {x5 : Int32} {M : Mem} {H : Heap} {locs : List Loc} {ls : Array Slot}, fX1_markWithin_143_14 k41 n x1 x2 x4 x5 M = some M1 → Rl E (sh_ true) (nn true) s.heap M H locs → lv_has ls 6 [(0, .ref (eB E + 141)), (1, .int x1), (2, .int x2), (3, .ref (eB E + 143)), (4, .int x4), (5, .int x5)] → W p l e (rm 3 0 0) s m args below meth c H locs 0 0 (MQ below (qq E none (sh_ true) (nn true) M1) args s 0 0 (fr E)) (F0 m 14 ls []) := by
  obtain ⟨hx, hb, hr, hml, hown, hts, hK, hN, hO, hlk, hbs⟩ := id X
  intro n
  induction n with
  | zero =>
    intro x1 x2 x4 x5 M H locs ls hf hR hl
    exact absurd (show none = some _ from hf) (fun h => by cases h)
  | succ n ih =>
    intro x1 x2 x4 x5 M H locs ls hf hR hl
    rw [fX1_markWithin_143_14] at hf
    refine lv_iload hx hb dX1_markWithin_14 (lv_at hl 4 rfl) ?_
    refine lv_if_lt (tgt := 41) hx hb dX1_markWithin_16 (by decide) (fun q16 => ?_) (fun q16 => ?_)
    · have hf := (br_if hf).1 q16
      exact hk41 hf hR hl
    · have hf := (br_if hf).2 q16
      refine lv_aload_n hx hb dX1_markWithin_19 rfl (lv_at hl 0 rfl) ?_
      refine x_get hx hb hown hts hK hR kX1 z_141 (j := 0) (by decide) fl_X1_38 (v := .ref (eB E + 1)) rfl dX1_markWithin_20 ?_
      refine lv_iload_n hx hb dX1_markWithin_23 rfl (lv_at hl 1 rfl) ?_
      refine lv_iload hx hb dX1_markWithin_24 (lv_at hl 5 rfl) ?_
      refine lv_iload hx hb dX1_markWithin_26 (lv_at hl 4 rfl) ?_
      obtain ⟨q28, c28, hf⟩ := br_b hf
      refine x_callV (k := 1) (As := [.int x1, .int x5, .int x4]) (rest := []) (st1 := [.int q28]) X hR (ctX8_wayOver_t c28) ml_X1_89 im_X8_wayOver se_X8_wayOver in_X8 co_X8_wayOver yo_X8_wayOver rfl kX8 (z_1 true) (rm_ok (by decide) (by decide)) rfl hl.1 rfl rfl (Nat.le_of_ble_eq_true rfl) dX1_markWithin_28 ⟨Nat.zero_le _, Nat.zero_le _⟩ (fun H locs hR => ?_)
      refine lv_iload_n hx hb dX1_markWithin_31 rfl (lv_at hl 2 rfl) ?_
      refine lv_icmp_le (tgt := 41) hx hb dX1_markWithin_32 (by decide) (fun q32 => ?_) (fun q32 => ?_)
      · have hf := (br_if hf).1 q32
        exact hk41 hf hR hl
      · have hf := (br_if hf).2 q32
        obtain ⟨v35, e35⟩ : ∃ y : Int32, y = (x4 + (-1 : Int32)) := ⟨_, rfl⟩
        have hf := nx_at e35 hf
        refine lv_iinc (v := v35) (lv' := [(4, .int v35), (0, .ref (eB E + 141)), (1, .int x1), (2, .int x2), (3, .ref (eB E + 143)), (5, .int x5)]) hx hb dX1_markWithin_35 hl (k := 4) rfl (by rw [e35]; rfl) (by decide) rfl (fun ls hl => ?_)
        refine lv_goto (tgt := 14) hx hb dX1_markWithin_38 (by decide) ?_
        exact ih hf hR (lv_sub hl [1, 2, 3, 4, 0, 5] rfl)
set_option maxHeartbeats 4000000 in
set_option maxRecDepth 100000 in
theorem wX1_markWithin_143_92 {M1 : Mem} {k7 : Int32 → Int32 → Int32 → Int32 → Mem → Option Mem} {k46 : Mem → Option Mem} {k98 : Mem → Option Mem} (X : CX E p s m args c meth cX1_markWithin 6 none RX1) (hk7 : ∀ {x1 : Int32} {x2 : Int32} {x4 : Int32} {x5 : Int32} {M : Mem} {H : Heap} {locs : List Loc} {ls : Array Slot}, k7 x1 x2 x4 x5 M = some M1 → Rl E (sh_ true) (nn true) s.heap M H locs → lv_has ls 6 [(0, .ref (eB E + 141)), (1, .int x1), (2, .int x2), (3, .ref (eB E + 143)), (4, .int x4), (5, .int x5)] → W p l e (rm 3 0 0) s m args below meth c H locs 0 0 (MQ below (qq E none (sh_ true) (nn true) M1) args s 0 0 (fr E)) (F0 m 7 ls [])) (hk46 : ∀ {M : Mem} {H : Heap} {locs : List Loc} {ls : Array Slot}, k46 M = some M1 → Rl E (sh_ true) (nn true) s.heap M H locs → lv_has ls 6 [] → W p l e (rm 3 0 0) s m args below meth c H locs 0 0 (MQ below (qq E none (sh_ true) (nn true) M1) args s 0 0 (fr E)) (F0 m 46 ls [])) (hk98 : ∀ {M : Mem} {H : Heap} {locs : List Loc} {ls : Array Slot}, k98 M = some M1 → Rl E (sh_ true) (nn true) s.heap M H locs → lv_has ls 6 [] → W p l e (rm 3 0 0) s m args below meth c H locs 0 0 (MQ below (qq E none (sh_ true) (nn true) M1) args s 0 0 (fr E)) (F0 m 98 ls [])) : ∀ {x1 : Int32} {x2 : Int32} {x4 : Int32} {x5 : Int32} {M : Mem} {H : Heap} {locs : List Loc} {ls : Array Slot}, fX1_markWithin_143_92 k7 k46 k98 x1 x2 x4 x5 M = some M1 → Rl E (sh_ true) (nn true) s.heap M H locs → lv_has ls 6 [(0, .ref (eB E + 141)), (1, .int x1), (2, .int x2), (3, .ref (eB E + 143)), (4, .int x4), (5, .int x5)] → W p l e (rm 3 0 0) s m args below meth c H locs 0 0 (MQ below (qq E none (sh_ true) (nn true) M1) args s 0 0 (fr E)) (F0 m 92 ls []) := by
  obtain ⟨hx, hb, hr, hml, hown, hts, hK, hN, hO, hlk, hbs⟩ := id X
  intro x1 x2 x4 x5 M H locs ls hf hR hl
  unfold fX1_markWithin_143_92 at hf
  obtain ⟨v92, e92⟩ : ∃ y : Int32, y = (x5 + (1 : Int32)) := ⟨_, rfl⟩
  have hf := nx_at e92 hf
  refine lv_iinc (v := v92) (lv' := [(5, .int v92), (0, .ref (eB E + 141)), (1, .int x1), (2, .int x2), (3, .ref (eB E + 143)), (4, .int x4)]) hx hb dX1_markWithin_92 hl (k := 5) rfl (by rw [e92]; rfl) (by decide) rfl (fun ls hl => ?_)
  refine lv_goto (tgt := 7) hx hb dX1_markWithin_95 (by decide) ?_
  exact hk7 hf hR (lv_sub hl [1, 2, 3, 4, 5, 0] rfl)
set_option maxHeartbeats 4000000 in
set_option maxRecDepth 100000 in
theorem wX1_markWithin_143_41 {M1 : Mem} {k7 : Int32 → Int32 → Int32 → Int32 → Mem → Option Mem} {k46 : Mem → Option Mem} {k98 : Mem → Option Mem} (X : CX E p s m args c meth cX1_markWithin 6 none RX1) (hk7 : ∀ {x1 : Int32} {x2 : Int32} {x4 : Int32} {x5 : Int32} {M : Mem} {H : Heap} {locs : List Loc} {ls : Array Slot}, k7 x1 x2 x4 x5 M = some M1 → Rl E (sh_ true) (nn true) s.heap M H locs → lv_has ls 6 [(0, .ref (eB E + 141)), (1, .int x1), (2, .int x2), (3, .ref (eB E + 143)), (4, .int x4), (5, .int x5)] → W p l e (rm 3 0 0) s m args below meth c H locs 0 0 (MQ below (qq E none (sh_ true) (nn true) M1) args s 0 0 (fr E)) (F0 m 7 ls [])) (hk46 : ∀ {M : Mem} {H : Heap} {locs : List Loc} {ls : Array Slot}, k46 M = some M1 → Rl E (sh_ true) (nn true) s.heap M H locs → lv_has ls 6 [] → W p l e (rm 3 0 0) s m args below meth c H locs 0 0 (MQ below (qq E none (sh_ true) (nn true) M1) args s 0 0 (fr E)) (F0 m 46 ls [])) (hk98 : ∀ {M : Mem} {H : Heap} {locs : List Loc} {ls : Array Slot}, k98 M = some M1 → Rl E (sh_ true) (nn true) s.heap M H locs → lv_has ls 6 [] → W p l e (rm 3 0 0) s m args below meth c H locs 0 0 (MQ below (qq E none (sh_ true) (nn true) M1) args s 0 0 (fr E)) (F0 m 98 ls [])) : ∀ {x1 : Int32} {x2 : Int32} {x4 : Int32} {x5 : Int32} {M : Mem} {H : Heap} {locs : List Loc} {ls : Array Slot}, fX1_markWithin_143_41 k7 k46 k98 x1 x2 x4 x5 M = some M1 → Rl E (sh_ true) (nn true) s.heap M H locs → lv_has ls 6 [(0, .ref (eB E + 141)), (1, .int x1), (2, .int x2), (3, .ref (eB E + 143)), (4, .int x4), (5, .int x5)] → W p l e (rm 3 0 0) s m args below meth c H locs 0 0 (MQ below (qq E none (sh_ true) (nn true) M1) args s 0 0 (fr E)) (F0 m 41 ls []) := by
  obtain ⟨hx, hb, hr, hml, hown, hts, hK, hN, hO, hlk, hbs⟩ := id X
  intro x1 x2 x4 x5 M H locs ls hf hR hl
  unfold fX1_markWithin_143_41 at hf
  refine lv_iload hx hb dX1_markWithin_41 (lv_at hl 4 rfl) ?_
  refine lv_if_ge (tgt := 47) hx hb dX1_markWithin_43 (by decide) (fun q43 => ?_) (fun q43 => ?_)
  · have hf := (br_if hf).1 q43
    refine lv_aload_n hx hb dX1_markWithin_47 rfl (lv_at hl 0 rfl) ?_
    refine lv_iload_n hx hb dX1_markWithin_48 rfl (lv_at hl 1 rfl) ?_
    refine lv_aload_n hx hb dX1_markWithin_49 rfl (lv_at hl 0 rfl) ?_
    refine x_get hx hb hown hts hK hR kX1 z_141 (j := 0) (by decide) fl_X1_38 (v := .ref (eB E + 1)) rfl dX1_markWithin_50 ?_
    refine x_get hx hb hown hts hK hR kX8 (z_1 true) (j := 1) (by decide) fl_X1_92 (v := .ref (eB E + 2)) rfl dX1_markWithin_53 ?_
    refine lv_iload_n hx hb dX1_markWithin_56 rfl (lv_at hl 1 rfl) ?_
    obtain ⟨g57, hf⟩ := br_g hf
    refine x_iald hx hb hK hR (z_2 true) g57 dX1_markWithin_57 ?_
    refine lv_iload hx hb dX1_markWithin_58 (lv_at hl 5 rfl) ?_
    refine lv_iadd hx hb dX1_markWithin_60 ?_
    refine lv_iload hx hb dX1_markWithin_61 (lv_at hl 4 rfl) ?_
    refine lv_aload_n hx hb dX1_markWithin_63 rfl (lv_at hl 3 rfl) ?_
    obtain ⟨q64, c64, hf⟩ := br_b hf
    refine x_callV (k := 141) (As := [.int x1, .int ((M.1 2 (ix x1)) + x5), .int x4, .ref (eB E + 143)]) (rest := []) (st1 := []) X hR (ctX1_markColumn_143 c64) ml_X1_95 im_X1_markColumn se_X1_markColumn in_X1 co_X1_markColumn yo_X1_markColumn rfl kX1 z_141 (rm_ok (by decide) (by decide)) rfl hl.1 rfl rfl (Nat.le_of_ble_eq_true rfl) dX1_markWithin_64 ⟨Nat.zero_le _, Nat.zero_le _⟩ (fun H locs hR => ?_)
    refine lv_iload hx hb dX1_markWithin_67 (lv_at hl 5 rfl) ?_
    refine lv_if_le (tgt := 92) hx hb dX1_markWithin_69 (by decide) (fun q69 => ?_) (fun q69 => ?_)
    · have hf := (br_if hf).1 q69
      exact wX1_markWithin_143_92 X (fun hf hR hl => hk7 hf hR hl) (fun hf hR hl => hk46 hf hR hl) (fun hf hR hl => hk98 hf hR hl) hf hR hl
    · have hf := (br_if hf).2 q69
      refine lv_aload_n hx hb dX1_markWithin_72 rfl (lv_at hl 0 rfl) ?_
      refine lv_iload_n hx hb dX1_markWithin_73 rfl (lv_at hl 1 rfl) ?_
      refine lv_aload_n hx hb dX1_markWithin_74 rfl (lv_at hl 0 rfl) ?_
      refine x_get hx hb hown hts hK hR kX1 z_141 (j := 0) (by decide) fl_X1_38 (v := .ref (eB E + 1)) rfl dX1_markWithin_75 ?_
      refine x_get hx hb hown hts hK hR kX8 (z_1 true) (j := 1) (by decide) fl_X1_92 (v := .ref (eB E + 2)) rfl dX1_markWithin_78 ?_
      refine lv_iload_n hx hb dX1_markWithin_81 rfl (lv_at hl 1 rfl) ?_
      obtain ⟨g82, hf⟩ := br_g hf
      refine x_iald hx hb hK hR (z_2 true) g82 dX1_markWithin_82 ?_
      refine lv_iload hx hb dX1_markWithin_83 (lv_at hl 5 rfl) ?_
      refine lv_isub hx hb dX1_markWithin_85 ?_
      refine lv_iload hx hb dX1_markWithin_86 (lv_at hl 4 rfl) ?_
      refine lv_aload_n hx hb dX1_markWithin_88 rfl (lv_at hl 3 rfl) ?_
      obtain ⟨q89, c89, hf⟩ := br_b hf
      refine x_callV (k := 141) (As := [.int x1, .int ((q64.1 2 (ix x1)) - x5), .int x4, .ref (eB E + 143)]) (rest := []) (st1 := []) X hR (ctX1_markColumn_143 c89) ml_X1_95 im_X1_markColumn se_X1_markColumn in_X1 co_X1_markColumn yo_X1_markColumn rfl kX1 z_141 (rm_ok (by decide) (by decide)) rfl hl.1 rfl rfl (Nat.le_of_ble_eq_true rfl) dX1_markWithin_89 ⟨Nat.zero_le _, Nat.zero_le _⟩ (fun H locs hR => ?_)
      exact wX1_markWithin_143_92 X (fun hf hR hl => hk7 hf hR hl) (fun hf hR hl => hk46 hf hR hl) (fun hf hR hl => hk98 hf hR hl) hf hR hl
  · have hf := (br_if hf).2 q43
    exact hk46 hf hR (lv_sub hl [] rfl)
set_option maxHeartbeats 4000000 in
set_option maxRecDepth 100000 in
theorem wX1_markWithin_143_7 {M1 : Mem} {k46 : Mem → Option Mem} {k98 : Mem → Option Mem} (X : CX E p s m args c meth cX1_markWithin 6 none RX1) (hk46 : ∀ {M : Mem} {H : Heap} {locs : List Loc} {ls : Array Slot}, k46 M = some M1 → Rl E (sh_ true) (nn true) s.heap M H locs → lv_has ls 6 [] → W p l e (rm 3 0 0) s m args below meth c H locs 0 0 (MQ below (qq E none (sh_ true) (nn true) M1) args s 0 0 (fr E)) (F0 m 46 ls [])) (hk98 : ∀ {M : Mem} {H : Heap} {locs : List Loc} {ls : Array Slot}, k98 M = some M1 → Rl E (sh_ true) (nn true) s.heap M H locs → lv_has ls 6 [] → W p l e (rm 3 0 0) s m args below meth c H locs 0 0 (MQ below (qq E none (sh_ true) (nn true) M1) args s 0 0 (fr E)) (F0 m 98 ls [])) : ∀ (n : Nat) {x1 : Int32} {x2 : Int32} {x4 : Int32} {x5 : Int32} {M : Mem} {H : Heap} {locs : List Loc} {ls : Array Slot}, fX1_markWithin_143_7 k46 k98 n x1 x2 x4 x5 M = some M1 → Rl E (sh_ true) (nn true) s.heap M H locs → lv_has ls 6 [(0, .ref (eB E + 141)), (1, .int x1), (2, .int x2), (3, .ref (eB E + 143)), (4, .int x4), (5, .int x5)] → W p l e (rm 3 0 0) s m args below meth c H locs 0 0 (MQ below (qq E none (sh_ true) (nn true) M1) args s 0 0 (fr E)) (F0 m 7 ls []) := by
  obtain ⟨hx, hb, hr, hml, hown, hts, hK, hN, hO, hlk, hbs⟩ := id X
  intro n
  induction n with
  | zero =>
    intro x1 x2 x4 x5 M H locs ls hf hR hl
    exact absurd (show none = some _ from hf) (fun h => by cases h)
  | succ n ih =>
    intro x1 x2 x4 x5 M H locs ls hf hR hl
    rw [fX1_markWithin_143_7] at hf
    refine lv_iload hx hb dX1_markWithin_7 (lv_at hl 5 rfl) ?_
    refine lv_bipush (v := 100) hx hb dX1_markWithin_9 (by decide) ?_
    refine lv_icmp_ge (tgt := 98) hx hb dX1_markWithin_11 (by decide) (fun q11 => ?_) (fun q11 => ?_)
    · have hf := (br_if hf).1 q11
      exact hk98 hf hR (lv_sub hl [] rfl)
    · have hf := (br_if hf).2 q11
      exact wX1_markWithin_143_14 X (fun hf hR hl => wX1_markWithin_143_41 X (fun hf hR hl => ih hf hR hl) (fun hf hR hl => hk46 hf hR hl) (fun hf hR hl => hk98 hf hR hl) hf hR hl) FU hf hR hl
set_option maxHeartbeats 4000000 in
set_option maxRecDepth 100000 in
theorem wX1_markWithin_143_46 {M1 : Mem} (X : CX E p s m args c meth cX1_markWithin 6 none RX1) : ∀ {M : Mem} {H : Heap} {locs : List Loc} {ls : Array Slot}, fX1_markWithin_143_46 M = some M1 → Rl E (sh_ true) (nn true) s.heap M H locs → lv_has ls 6 [] → W p l e (rm 3 0 0) s m args below meth c H locs 0 0 (MQ below (qq E none (sh_ true) (nn true) M1) args s 0 0 (fr E)) (F0 m 46 ls []) := by
  obtain ⟨hx, hb, hr, hml, hown, hts, hK, hN, hO, hlk, hbs⟩ := id X
  intro M H locs ls hf hR hl
  unfold fX1_markWithin_143_46 at hf
  cases hf
  exact x_vret hx hb hr hlk hR dX1_markWithin_46
set_option maxHeartbeats 4000000 in
set_option maxRecDepth 100000 in
theorem wX1_markWithin_143_98 {M1 : Mem} (X : CX E p s m args c meth cX1_markWithin 6 none RX1) : ∀ {M : Mem} {H : Heap} {locs : List Loc} {ls : Array Slot}, fX1_markWithin_143_98 M = some M1 → Rl E (sh_ true) (nn true) s.heap M H locs → lv_has ls 6 [] → W p l e (rm 3 0 0) s m args below meth c H locs 0 0 (MQ below (qq E none (sh_ true) (nn true) M1) args s 0 0 (fr E)) (F0 m 98 ls []) := by
  obtain ⟨hx, hb, hr, hml, hown, hts, hK, hN, hO, hlk, hbs⟩ := id X
  intro M H locs ls hf hR hl
  unfold fX1_markWithin_143_98 at hf
  cases hf
  exact x_vret hx hb hr hlk hR dX1_markWithin_98
set_option maxHeartbeats 4000000 in
set_option maxRecDepth 100000 in
theorem wX1_markWithin_143_0 {M1 : Mem} (X : CX E p s m args c meth cX1_markWithin 6 none RX1) : ∀ {x1 : Int32} {x2 : Int32} {M : Mem} {H : Heap} {locs : List Loc} {ls : Array Slot}, fX1_markWithin_143 x1 x2 M = some M1 → Rl E (sh_ true) (nn true) s.heap M H locs → lv_has ls 6 [(0, .ref (eB E + 141)), (1, .int x1), (2, .int x2), (3, .ref (eB E + 143))] → W p l e (rm 3 0 0) s m args below meth c H locs 0 0 (MQ below (qq E none (sh_ true) (nn true) M1) args s 0 0 (fr E)) (F0 m 0 ls []) := by
  obtain ⟨hx, hb, hr, hml, hown, hts, hK, hN, hO, hlk, hbs⟩ := id X
  intro x1 x2 M H locs ls hf hR hl
  unfold fX1_markWithin_143 at hf
  refine lv_bipush (v := 99) hx hb dX1_markWithin_0 (by decide) ?_
  refine lv_istore (lv' := [(4, .int (99 : Int32)), (0, .ref (eB E + 141)), (1, .int x1), (2, .int x2), (3, .ref (eB E + 143))]) hx hb dX1_markWithin_2 hl (by decide) rfl (fun ls hl => ?_)
  refine lv_iconst (v := 0) hx hb dX1_markWithin_4 (by decide) ?_
  refine lv_istore (lv' := [(5, .int (0 : Int32)), (4, .int (99 : Int32)), (0, .ref (eB E + 141)), (1, .int x1), (2, .int x2), (3, .ref (eB E + 143))]) hx hb dX1_markWithin_5 hl (by decide) rfl (fun ls hl => ?_)
  exact wX1_markWithin_143_7 X (fun hf hR hl => wX1_markWithin_143_46 X hf hR hl) (fun hf hR hl => wX1_markWithin_143_98 X hf hR hl) FU hf hR (lv_sub hl [2, 3, 4, 5, 1, 0] rfl)
theorem ctX1_markWithin_143 {l : Launch} {E : Ge} {M : Mem} {x1 : Int32} {x2 : Int32} {M1 : Mem} (h : fX1_markWithin_143 x1 x2 M = some M1) : CT l E yX1_markWithin cX1_markWithin 6 none 3 0 0 [.ref (eB E + 141), .int x1, .int x2, .ref (eB E + 143)] none (sh_ true) (nn true) M (sh_ true) (nn true) M1 := by
  refine met_of (by decide) (Nat.le_of_ble_eq_true rfl) ?_
  intro p e s m args below meth c X _ hR ls hl
  exact wX1_markWithin_143_0 X h hR hl
def fX1_sumColumns_142_27 (k2 : Int32 → Mem → Option Mem) (k33 : Mem → Option Mem) (x1 : Int32) (M : Mem) : Option Mem := nx (x1 + (1 : Int32)) (fun v27 => k2 v27 M)
def fX1_sumColumns_142_2 (k33 : Mem → Option Mem) : Nat → Int32 → Mem → Option Mem
  | 0, _, _ => none
  | n + 1, x1, M => (if (10000 : Int32) ≤ x1 then k33 M else (if (irm x1 (100 : Int32)) = 0 then fX1_sumColumns_142_27 (fX1_sumColumns_142_2 k33 n) k33 x1 M else (if inb x1 10000 = true then (if inb (x1 - (1 : Int32)) 10000 = true then (if inb x1 10000 = true then nx (sI M 142 (ix x1) ((M.1 142 (ix x1)) + (M.1 142 (ix (x1 - (1 : Int32)))))) (fun M26 => fX1_sumColumns_142_27 (fX1_sumColumns_142_2 k33 n) k33 x1 M26) else none) else none) else none)))
def fX1_sumColumns_142_33 (M : Mem) : Option Mem := some M
def fX1_sumColumns_142 (M : Mem) : Option Mem := fX1_sumColumns_142_2 fX1_sumColumns_142_33 FU (0 : Int32) M
set_option maxHeartbeats 4000000 in
set_option maxRecDepth 100000 in
theorem wX1_sumColumns_142_27 {M1 : Mem} {k2 : Int32 → Mem → Option Mem} {k33 : Mem → Option Mem} (X : CX E p s m args c meth cX1_sumColumns 2 none RX1) (hk2 : ∀ {x1 : Int32} {M : Mem} {H : Heap} {locs : List Loc} {ls : Array Slot}, k2 x1 M = some M1 → Rl E (sh_ true) (nn true) s.heap M H locs → lv_has ls 2 [(0, .ref (eB E + 142)), (1, .int x1)] → W p l e (rm 1 0 0) s m args below meth c H locs 0 0 (MQ below (qq E none (sh_ true) (nn true) M1) args s 0 0 (fr E)) (F0 m 2 ls [])) (hk33 : ∀ {M : Mem} {H : Heap} {locs : List Loc} {ls : Array Slot}, k33 M = some M1 → Rl E (sh_ true) (nn true) s.heap M H locs → lv_has ls 2 [] → W p l e (rm 1 0 0) s m args below meth c H locs 0 0 (MQ below (qq E none (sh_ true) (nn true) M1) args s 0 0 (fr E)) (F0 m 33 ls [])) : ∀ {x1 : Int32} {M : Mem} {H : Heap} {locs : List Loc} {ls : Array Slot}, fX1_sumColumns_142_27 k2 k33 x1 M = some M1 → Rl E (sh_ true) (nn true) s.heap M H locs → lv_has ls 2 [(0, .ref (eB E + 142)), (1, .int x1)] → W p l e (rm 1 0 0) s m args below meth c H locs 0 0 (MQ below (qq E none (sh_ true) (nn true) M1) args s 0 0 (fr E)) (F0 m 27 ls []) := by
  obtain ⟨hx, hb, hr, hml, hown, hts, hK, hN, hO, hlk, hbs⟩ := id X
  intro x1 M H locs ls hf hR hl
  unfold fX1_sumColumns_142_27 at hf
  obtain ⟨v27, e27⟩ : ∃ y : Int32, y = (x1 + (1 : Int32)) := ⟨_, rfl⟩
  have hf := nx_at e27 hf
  refine lv_iinc (v := v27) (lv' := [(1, .int v27), (0, .ref (eB E + 142))]) hx hb dX1_sumColumns_27 hl (k := 1) rfl (by rw [e27]; rfl) (by decide) rfl (fun ls hl => ?_)
  refine lv_goto (tgt := 2) hx hb dX1_sumColumns_30 (by decide) ?_
  exact hk2 hf hR (lv_sub hl [1, 0] rfl)
set_option maxHeartbeats 4000000 in
set_option maxRecDepth 100000 in
theorem wX1_sumColumns_142_2 {M1 : Mem} {k33 : Mem → Option Mem} (X : CX E p s m args c meth cX1_sumColumns 2 none RX1) (hk33 : ∀ {M : Mem} {H : Heap} {locs : List Loc} {ls : Array Slot}, k33 M = some M1 → Rl E (sh_ true) (nn true) s.heap M H locs → lv_has ls 2 [] → W p l e (rm 1 0 0) s m args below meth c H locs 0 0 (MQ below (qq E none (sh_ true) (nn true) M1) args s 0 0 (fr E)) (F0 m 33 ls [])) : ∀ (n : Nat) {x1 : Int32} {M : Mem} {H : Heap} {locs : List Loc} {ls : Array Slot}, fX1_sumColumns_142_2 k33 n x1 M = some M1 → Rl E (sh_ true) (nn true) s.heap M H locs → lv_has ls 2 [(0, .ref (eB E + 142)), (1, .int x1)] → W p l e (rm 1 0 0) s m args below meth c H locs 0 0 (MQ below (qq E none (sh_ true) (nn true) M1) args s 0 0 (fr E)) (F0 m 2 ls []) := by
  obtain ⟨hx, hb, hr, hml, hown, hts, hK, hN, hO, hlk, hbs⟩ := id X
  intro n
  induction n with
  | zero =>
    intro x1 M H locs ls hf hR hl
    exact absurd (show none = some _ from hf) (fun h => by cases h)
  | succ n ih =>
    intro x1 M H locs ls hf hR hl
    rw [fX1_sumColumns_142_2] at hf
    refine lv_iload_n hx hb dX1_sumColumns_2 rfl (lv_at hl 1 rfl) ?_
    refine lv_sipush (v := 10000) hx hb dX1_sumColumns_3 (by decide) ?_
    refine lv_icmp_ge (tgt := 33) hx hb dX1_sumColumns_6 (by decide) (fun q6 => ?_) (fun q6 => ?_)
    · have hf := (br_if hf).1 q6
      exact hk33 hf hR (lv_sub hl [] rfl)
    · have hf := (br_if hf).2 q6
      refine lv_iload_n hx hb dX1_sumColumns_9 rfl (lv_at hl 1 rfl) ?_
      refine lv_bipush (v := 100) hx hb dX1_sumColumns_10 (by decide) ?_
      refine lv_irem hx hb dX1_sumColumns_12 (by decide) ?_
      refine W.eq (g2 := F0 m 13 ls [.int (irm x1 (100 : Int32))]) rfl ?_
      refine lv_if_eq (tgt := 27) hx hb dX1_sumColumns_13 (by decide) (fun q13 => ?_) (fun q13 => ?_)
      · have hf := (br_if hf).1 q13
        exact wX1_sumColumns_142_27 X (fun hf hR hl => ih hf hR hl) (fun hf hR hl => hk33 hf hR hl) hf hR hl
      · have hf := (br_if hf).2 q13
        refine lv_aload_n hx hb dX1_sumColumns_16 rfl (lv_at hl 0 rfl) ?_
        refine lv_iload_n hx hb dX1_sumColumns_17 rfl (lv_at hl 1 rfl) ?_
        refine lv_dup2_11 hx hb dX1_sumColumns_18 rfl rfl ?_
        obtain ⟨g19, hf⟩ := br_g hf
        refine x_iald hx hb hK hR z_142 g19 dX1_sumColumns_19 ?_
        refine lv_aload_n hx hb dX1_sumColumns_20 rfl (lv_at hl 0 rfl) ?_
        refine lv_iload_n hx hb dX1_sumColumns_21 rfl (lv_at hl 1 rfl) ?_
        refine lv_iconst (v := 1) hx hb dX1_sumColumns_22 (by decide) ?_
        refine lv_isub hx hb dX1_sumColumns_23 ?_
        obtain ⟨g24, hf⟩ := br_g hf
        refine x_iald hx hb hK hR z_142 g24 dX1_sumColumns_24 ?_
        refine lv_iadd hx hb dX1_sumColumns_25 ?_
        obtain ⟨g26, hf⟩ := br_g hf
        refine x_iast hx hb hK hR z_142 g26 dX1_sumColumns_26 (fun H locs hR => ?_)
        obtain ⟨M26, e26⟩ : ∃ y : Mem, y = (sI M 142 (ix x1) ((M.1 142 (ix x1)) + (M.1 142 (ix (x1 - (1 : Int32)))))) := ⟨_, rfl⟩
        have hf := nx_at e26 hf
        have hR : Rl E (sh_ true) (nn true) s.heap M26 H locs := by rw [e26]; exact hR
        exact wX1_sumColumns_142_27 X (fun hf hR hl => ih hf hR hl) (fun hf hR hl => hk33 hf hR hl) hf hR hl
set_option maxHeartbeats 4000000 in
set_option maxRecDepth 100000 in
theorem wX1_sumColumns_142_33 {M1 : Mem} (X : CX E p s m args c meth cX1_sumColumns 2 none RX1) : ∀ {M : Mem} {H : Heap} {locs : List Loc} {ls : Array Slot}, fX1_sumColumns_142_33 M = some M1 → Rl E (sh_ true) (nn true) s.heap M H locs → lv_has ls 2 [] → W p l e (rm 1 0 0) s m args below meth c H locs 0 0 (MQ below (qq E none (sh_ true) (nn true) M1) args s 0 0 (fr E)) (F0 m 33 ls []) := by
  obtain ⟨hx, hb, hr, hml, hown, hts, hK, hN, hO, hlk, hbs⟩ := id X
  intro M H locs ls hf hR hl
  unfold fX1_sumColumns_142_33 at hf
  cases hf
  exact x_vret hx hb hr hlk hR dX1_sumColumns_33
set_option maxHeartbeats 4000000 in
set_option maxRecDepth 100000 in
theorem wX1_sumColumns_142_0 {M1 : Mem} (X : CX E p s m args c meth cX1_sumColumns 2 none RX1) : ∀ {M : Mem} {H : Heap} {locs : List Loc} {ls : Array Slot}, fX1_sumColumns_142 M = some M1 → Rl E (sh_ true) (nn true) s.heap M H locs → lv_has ls 2 [(0, .ref (eB E + 142))] → W p l e (rm 1 0 0) s m args below meth c H locs 0 0 (MQ below (qq E none (sh_ true) (nn true) M1) args s 0 0 (fr E)) (F0 m 0 ls []) := by
  obtain ⟨hx, hb, hr, hml, hown, hts, hK, hN, hO, hlk, hbs⟩ := id X
  intro M H locs ls hf hR hl
  unfold fX1_sumColumns_142 at hf
  refine lv_iconst (v := 0) hx hb dX1_sumColumns_0 (by decide) ?_
  refine lv_istore_n (lv' := [(1, .int (0 : Int32)), (0, .ref (eB E + 142))]) hx hb dX1_sumColumns_1 rfl hl (by decide) rfl (fun ls hl => ?_)
  exact wX1_sumColumns_142_2 X (fun hf hR hl => wX1_sumColumns_142_33 X hf hR hl) FU hf hR (lv_sub hl [1, 0] rfl)
theorem ctX1_sumColumns_142 {l : Launch} {E : Ge} {M : Mem} {M1 : Mem} (h : fX1_sumColumns_142 M = some M1) : CT l E yX1_sumColumns cX1_sumColumns 2 none 1 0 0 [.ref (eB E + 142)] none (sh_ true) (nn true) M (sh_ true) (nn true) M1 := by
  refine met_of (by decide) (Nat.le_of_ble_eq_true rfl) ?_
  intro p e s m args below meth c X _ hR ls hl
  exact wX1_sumColumns_142_0 X h hR hl
def fX1_sumColumns_143_27 (k2 : Int32 → Mem → Option Mem) (k33 : Mem → Option Mem) (x1 : Int32) (M : Mem) : Option Mem := nx (x1 + (1 : Int32)) (fun v27 => k2 v27 M)
def fX1_sumColumns_143_2 (k33 : Mem → Option Mem) : Nat → Int32 → Mem → Option Mem
  | 0, _, _ => none
  | n + 1, x1, M => (if (10000 : Int32) ≤ x1 then k33 M else (if (irm x1 (100 : Int32)) = 0 then fX1_sumColumns_143_27 (fX1_sumColumns_143_2 k33 n) k33 x1 M else (if inb x1 10000 = true then (if inb (x1 - (1 : Int32)) 10000 = true then (if inb x1 10000 = true then nx (sI M 143 (ix x1) ((M.1 143 (ix x1)) + (M.1 143 (ix (x1 - (1 : Int32)))))) (fun M26 => fX1_sumColumns_143_27 (fX1_sumColumns_143_2 k33 n) k33 x1 M26) else none) else none) else none)))
def fX1_sumColumns_143_33 (M : Mem) : Option Mem := some M
def fX1_sumColumns_143 (M : Mem) : Option Mem := fX1_sumColumns_143_2 fX1_sumColumns_143_33 FU (0 : Int32) M
set_option maxHeartbeats 4000000 in
set_option maxRecDepth 100000 in
theorem wX1_sumColumns_143_27 {M1 : Mem} {k2 : Int32 → Mem → Option Mem} {k33 : Mem → Option Mem} (X : CX E p s m args c meth cX1_sumColumns 2 none RX1) (hk2 : ∀ {x1 : Int32} {M : Mem} {H : Heap} {locs : List Loc} {ls : Array Slot}, k2 x1 M = some M1 → Rl E (sh_ true) (nn true) s.heap M H locs → lv_has ls 2 [(0, .ref (eB E + 143)), (1, .int x1)] → W p l e (rm 1 0 0) s m args below meth c H locs 0 0 (MQ below (qq E none (sh_ true) (nn true) M1) args s 0 0 (fr E)) (F0 m 2 ls [])) (hk33 : ∀ {M : Mem} {H : Heap} {locs : List Loc} {ls : Array Slot}, k33 M = some M1 → Rl E (sh_ true) (nn true) s.heap M H locs → lv_has ls 2 [] → W p l e (rm 1 0 0) s m args below meth c H locs 0 0 (MQ below (qq E none (sh_ true) (nn true) M1) args s 0 0 (fr E)) (F0 m 33 ls [])) : ∀ {x1 : Int32} {M : Mem} {H : Heap} {locs : List Loc} {ls : Array Slot}, fX1_sumColumns_143_27 k2 k33 x1 M = some M1 → Rl E (sh_ true) (nn true) s.heap M H locs → lv_has ls 2 [(0, .ref (eB E + 143)), (1, .int x1)] → W p l e (rm 1 0 0) s m args below meth c H locs 0 0 (MQ below (qq E none (sh_ true) (nn true) M1) args s 0 0 (fr E)) (F0 m 27 ls []) := by
  obtain ⟨hx, hb, hr, hml, hown, hts, hK, hN, hO, hlk, hbs⟩ := id X
  intro x1 M H locs ls hf hR hl
  unfold fX1_sumColumns_143_27 at hf
  obtain ⟨v27, e27⟩ : ∃ y : Int32, y = (x1 + (1 : Int32)) := ⟨_, rfl⟩
  have hf := nx_at e27 hf
  refine lv_iinc (v := v27) (lv' := [(1, .int v27), (0, .ref (eB E + 143))]) hx hb dX1_sumColumns_27 hl (k := 1) rfl (by rw [e27]; rfl) (by decide) rfl (fun ls hl => ?_)
  refine lv_goto (tgt := 2) hx hb dX1_sumColumns_30 (by decide) ?_
  exact hk2 hf hR (lv_sub hl [1, 0] rfl)
set_option maxHeartbeats 4000000 in
set_option maxRecDepth 100000 in
theorem wX1_sumColumns_143_2 {M1 : Mem} {k33 : Mem → Option Mem} (X : CX E p s m args c meth cX1_sumColumns 2 none RX1) (hk33 : ∀ {M : Mem} {H : Heap} {locs : List Loc} {ls : Array Slot}, k33 M = some M1 → Rl E (sh_ true) (nn true) s.heap M H locs → lv_has ls 2 [] → W p l e (rm 1 0 0) s m args below meth c H locs 0 0 (MQ below (qq E none (sh_ true) (nn true) M1) args s 0 0 (fr E)) (F0 m 33 ls [])) : ∀ (n : Nat) {x1 : Int32} {M : Mem} {H : Heap} {locs : List Loc} {ls : Array Slot}, fX1_sumColumns_143_2 k33 n x1 M = some M1 → Rl E (sh_ true) (nn true) s.heap M H locs → lv_has ls 2 [(0, .ref (eB E + 143)), (1, .int x1)] → W p l e (rm 1 0 0) s m args below meth c H locs 0 0 (MQ below (qq E none (sh_ true) (nn true) M1) args s 0 0 (fr E)) (F0 m 2 ls []) := by
  obtain ⟨hx, hb, hr, hml, hown, hts, hK, hN, hO, hlk, hbs⟩ := id X
  intro n
  induction n with
  | zero =>
    intro x1 M H locs ls hf hR hl
    exact absurd (show none = some _ from hf) (fun h => by cases h)
  | succ n ih =>
    intro x1 M H locs ls hf hR hl
    rw [fX1_sumColumns_143_2] at hf
    refine lv_iload_n hx hb dX1_sumColumns_2 rfl (lv_at hl 1 rfl) ?_
    refine lv_sipush (v := 10000) hx hb dX1_sumColumns_3 (by decide) ?_
    refine lv_icmp_ge (tgt := 33) hx hb dX1_sumColumns_6 (by decide) (fun q6 => ?_) (fun q6 => ?_)
    · have hf := (br_if hf).1 q6
      exact hk33 hf hR (lv_sub hl [] rfl)
    · have hf := (br_if hf).2 q6
      refine lv_iload_n hx hb dX1_sumColumns_9 rfl (lv_at hl 1 rfl) ?_
      refine lv_bipush (v := 100) hx hb dX1_sumColumns_10 (by decide) ?_
      refine lv_irem hx hb dX1_sumColumns_12 (by decide) ?_
      refine W.eq (g2 := F0 m 13 ls [.int (irm x1 (100 : Int32))]) rfl ?_
      refine lv_if_eq (tgt := 27) hx hb dX1_sumColumns_13 (by decide) (fun q13 => ?_) (fun q13 => ?_)
      · have hf := (br_if hf).1 q13
        exact wX1_sumColumns_143_27 X (fun hf hR hl => ih hf hR hl) (fun hf hR hl => hk33 hf hR hl) hf hR hl
      · have hf := (br_if hf).2 q13
        refine lv_aload_n hx hb dX1_sumColumns_16 rfl (lv_at hl 0 rfl) ?_
        refine lv_iload_n hx hb dX1_sumColumns_17 rfl (lv_at hl 1 rfl) ?_
        refine lv_dup2_11 hx hb dX1_sumColumns_18 rfl rfl ?_
        obtain ⟨g19, hf⟩ := br_g hf
        refine x_iald hx hb hK hR z_143 g19 dX1_sumColumns_19 ?_
        refine lv_aload_n hx hb dX1_sumColumns_20 rfl (lv_at hl 0 rfl) ?_
        refine lv_iload_n hx hb dX1_sumColumns_21 rfl (lv_at hl 1 rfl) ?_
        refine lv_iconst (v := 1) hx hb dX1_sumColumns_22 (by decide) ?_
        refine lv_isub hx hb dX1_sumColumns_23 ?_
        obtain ⟨g24, hf⟩ := br_g hf
        refine x_iald hx hb hK hR z_143 g24 dX1_sumColumns_24 ?_
        refine lv_iadd hx hb dX1_sumColumns_25 ?_
        obtain ⟨g26, hf⟩ := br_g hf
        refine x_iast hx hb hK hR z_143 g26 dX1_sumColumns_26 (fun H locs hR => ?_)
        obtain ⟨M26, e26⟩ : ∃ y : Mem, y = (sI M 143 (ix x1) ((M.1 143 (ix x1)) + (M.1 143 (ix (x1 - (1 : Int32)))))) := ⟨_, rfl⟩
        have hf := nx_at e26 hf
        have hR : Rl E (sh_ true) (nn true) s.heap M26 H locs := by rw [e26]; exact hR
        exact wX1_sumColumns_143_27 X (fun hf hR hl => ih hf hR hl) (fun hf hR hl => hk33 hf hR hl) hf hR hl
set_option maxHeartbeats 4000000 in
set_option maxRecDepth 100000 in
theorem wX1_sumColumns_143_33 {M1 : Mem} (X : CX E p s m args c meth cX1_sumColumns 2 none RX1) : ∀ {M : Mem} {H : Heap} {locs : List Loc} {ls : Array Slot}, fX1_sumColumns_143_33 M = some M1 → Rl E (sh_ true) (nn true) s.heap M H locs → lv_has ls 2 [] → W p l e (rm 1 0 0) s m args below meth c H locs 0 0 (MQ below (qq E none (sh_ true) (nn true) M1) args s 0 0 (fr E)) (F0 m 33 ls []) := by
  obtain ⟨hx, hb, hr, hml, hown, hts, hK, hN, hO, hlk, hbs⟩ := id X
  intro M H locs ls hf hR hl
  unfold fX1_sumColumns_143_33 at hf
  cases hf
  exact x_vret hx hb hr hlk hR dX1_sumColumns_33
set_option maxHeartbeats 4000000 in
set_option maxRecDepth 100000 in
theorem wX1_sumColumns_143_0 {M1 : Mem} (X : CX E p s m args c meth cX1_sumColumns 2 none RX1) : ∀ {M : Mem} {H : Heap} {locs : List Loc} {ls : Array Slot}, fX1_sumColumns_143 M = some M1 → Rl E (sh_ true) (nn true) s.heap M H locs → lv_has ls 2 [(0, .ref (eB E + 143))] → W p l e (rm 1 0 0) s m args below meth c H locs 0 0 (MQ below (qq E none (sh_ true) (nn true) M1) args s 0 0 (fr E)) (F0 m 0 ls []) := by
  obtain ⟨hx, hb, hr, hml, hown, hts, hK, hN, hO, hlk, hbs⟩ := id X
  intro M H locs ls hf hR hl
  unfold fX1_sumColumns_143 at hf
  refine lv_iconst (v := 0) hx hb dX1_sumColumns_0 (by decide) ?_
  refine lv_istore_n (lv' := [(1, .int (0 : Int32)), (0, .ref (eB E + 143))]) hx hb dX1_sumColumns_1 rfl hl (by decide) rfl (fun ls hl => ?_)
  exact wX1_sumColumns_143_2 X (fun hf hR hl => wX1_sumColumns_143_33 X hf hR hl) FU hf hR (lv_sub hl [1, 0] rfl)
theorem ctX1_sumColumns_143 {l : Launch} {E : Ge} {M : Mem} {M1 : Mem} (h : fX1_sumColumns_143 M = some M1) : CT l E yX1_sumColumns cX1_sumColumns 2 none 1 0 0 [.ref (eB E + 143)] none (sh_ true) (nn true) M (sh_ true) (nn true) M1 := by
  refine met_of (by decide) (Nat.le_of_ble_eq_true rfl) ?_
  intro p e s m args below meth c X _ hR ls hl
  exact wX1_sumColumns_143_0 X h hR hl
def fX1_weigh_18 (k71 : Mem → Option Mem) : Nat → Int32 → Int32 → Int32 → Mem → Option Mem
  | 0, _, _, _, _ => none
  | n + 1, x1, x2, x3, M => (if (M.1 1 0) ≤ x3 then k71 M else (fX8_wayTo_t M x3 x1 x2).bind (fun q36 => (fX1_markWithin_142 x3 (q36 - (1 : Int32)) M).bind (fun q51 => (fX1_markWithin_143 x3 q36 q51).bind (fun q62 => nx (x3 + (1 : Int32)) (fun v65 => fX1_weigh_18 k71 n x1 x2 v65 q62)))))
def fX1_weigh_71 (M : Mem) : Option Mem := (fX1_sumColumns_142 M).bind (fun q75 => (fX1_sumColumns_143 q75).bind (fun q82 => some q82))
def fX1_weigh (x1 : Int32) (x2 : Int32) (M : Mem) : Option Mem := (fJ7_fill_53178 142 10000 (0 : Int32) M).bind (fun q5 => (fJ7_fill_53178 143 10000 (0 : Int32) q5).bind (fun q13 => fX1_weigh_18 fX1_weigh_71 FU x1 x2 (0 : Int32) q13))
set_option maxHeartbeats 4000000 in
set_option maxRecDepth 100000 in
theorem wX1_weigh_18 {M1 : Mem} {k71 : Mem → Option Mem} (X : CX E p s m args c meth cX1_weigh 5 none RX1) (hk71 : ∀ {M : Mem} {H : Heap} {locs : List Loc} {ls : Array Slot}, k71 M = some M1 → Rl E (sh_ true) (nn true) s.heap M H locs → lv_has ls 5 [(0, .ref (eB E + 141))] → W p l e (rm 4 0 0) s m args below meth c H locs 0 0 (MQ below (qq E none (sh_ true) (nn true) M1) args s 0 0 (fr E)) (F0 m 71 ls [])) : ∀ (n : Nat) {x1 : Int32} {x2 : Int32} {x3 : Int32} {M : Mem} {H : Heap} {locs : List Loc} {ls : Array Slot}, fX1_weigh_18 k71 n x1 x2 x3 M = some M1 → Rl E (sh_ true) (nn true) s.heap M H locs → lv_has ls 5 [(0, .ref (eB E + 141)), (1, .int x1), (2, .int x2), (3, .int x3)] → W p l e (rm 4 0 0) s m args below meth c H locs 0 0 (MQ below (qq E none (sh_ true) (nn true) M1) args s 0 0 (fr E)) (F0 m 18 ls []) := by
  obtain ⟨hx, hb, hr, hml, hown, hts, hK, hN, hO, hlk, hbs⟩ := id X
  intro n
  induction n with
  | zero =>
    intro x1 x2 x3 M H locs ls hf hR hl
    exact absurd (show none = some _ from hf) (fun h => by cases h)
  | succ n ih =>
    intro x1 x2 x3 M H locs ls hf hR hl
    rw [fX1_weigh_18] at hf
    refine lv_iload_n hx hb dX1_weigh_18 rfl (lv_at hl 3 rfl) ?_
    refine lv_aload_n hx hb dX1_weigh_19 rfl (lv_at hl 0 rfl) ?_
    refine x_get hx hb hown hts hK hR kX1 z_141 (j := 0) (by decide) fl_X1_38 (v := .ref (eB E + 1)) rfl dX1_weigh_20 ?_
    refine x_get hx hb hown hts hK hR kX8 (z_1 true) (j := 0) (by decide) fl_X1_74 (v := .int (M.1 1 0)) rfl dX1_weigh_23 ?_
    refine lv_icmp_ge (tgt := 71) hx hb dX1_weigh_26 (by decide) (fun q26 => ?_) (fun q26 => ?_)
    · have hf := (br_if hf).1 q26
      exact hk71 hf hR (lv_sub hl [0] rfl)
    · have hf := (br_if hf).2 q26
      refine lv_aload_n hx hb dX1_weigh_29 rfl (lv_at hl 0 rfl) ?_
      refine x_get hx hb hown hts hK hR kX1 z_141 (j := 0) (by decide) fl_X1_38 (v := .ref (eB E + 1)) rfl dX1_weigh_30 ?_
      refine lv_iload_n hx hb dX1_weigh_33 rfl (lv_at hl 3 rfl) ?_
      refine lv_iload_n hx hb dX1_weigh_34 rfl (lv_at hl 1 rfl) ?_
      refine lv_iload_n hx hb dX1_weigh_35 rfl (lv_at hl 2 rfl) ?_
      obtain ⟨q36, c36, hf⟩ := br_b hf
      refine x_callV (k := 1) (As := [.int x3, .int x1, .int x2]) (rest := []) (st1 := [.int q36]) X hR (ctX8_wayTo_t c36) ml_X1_77 im_X8_wayTo se_X8_wayTo in_X8 co_X8_wayTo yo_X8_wayTo rfl kX8 (z_1 true) (rm_ok (by decide) (by decide)) rfl hl.1 rfl rfl (Nat.le_of_ble_eq_true rfl) dX1_weigh_36 ⟨Nat.zero_le _, Nat.zero_le _⟩ (fun H locs hR => ?_)
      refine lv_istore (lv' := [(4, .int q36), (0, .ref (eB E + 141)), (1, .int x1), (2, .int x2), (3, .int x3)]) hx hb dX1_weigh_39 hl (by decide) rfl (fun ls hl => ?_)
      refine lv_aload_n hx hb dX1_weigh_41 rfl (lv_at hl 1 rfl) ?_
      refine lv_iload_n hx hb dX1_weigh_42 rfl (lv_at hl 4 rfl) ?_
      refine lv_iload hx hb dX1_weigh_43 (lv_at hl 0 rfl) ?_
      refine lv_iconst (v := 1) hx hb dX1_weigh_45 (by decide) ?_
      refine lv_isub hx hb dX1_weigh_46 ?_
      refine lv_aload_n hx hb dX1_weigh_47 rfl (lv_at hl 1 rfl) ?_
      refine x_get hx hb hown hts hK hR kX1 z_141 (j := 1) (by decide) fl_X1_9 (v := .ref (eB E + 142)) rfl dX1_weigh_48 ?_
      obtain ⟨q51, c51, hf⟩ := br_b hf
      refine x_callV (k := 141) (As := [.int x3, .int (q36 - (1 : Int32)), .ref (eB E + 142)]) (rest := []) (st1 := []) X hR (ctX1_markWithin_142 c51) ml_X1_81 im_X1_markWithin se_X1_markWithin in_X1 co_X1_markWithin yo_X1_markWithin rfl kX1 z_141 (rm_ok (by decide) (by decide)) rfl hl.1 rfl rfl (Nat.le_of_ble_eq_true rfl) dX1_weigh_51 ⟨Nat.zero_le _, Nat.zero_le _⟩ (fun H locs hR => ?_)
      refine lv_aload_n hx hb dX1_weigh_54 rfl (lv_at hl 1 rfl) ?_
      refine lv_iload_n hx hb dX1_weigh_55 rfl (lv_at hl 4 rfl) ?_
      refine lv_iload hx hb dX1_weigh_56 (lv_at hl 0 rfl) ?_
      refine lv_aload_n hx hb dX1_weigh_58 rfl (lv_at hl 1 rfl) ?_
      refine x_get hx hb hown hts hK hR kX1 z_141 (j := 2) (by decide) fl_X1_15 (v := .ref (eB E + 143)) rfl dX1_weigh_59 ?_
      obtain ⟨q62, c62, hf⟩ := br_b hf
      refine x_callV (k := 141) (As := [.int x3, .int q36, .ref (eB E + 143)]) (rest := []) (st1 := []) X hR (ctX1_markWithin_143 c62) ml_X1_81 im_X1_markWithin se_X1_markWithin in_X1 co_X1_markWithin yo_X1_markWithin rfl kX1 z_141 (rm_ok (by decide) (by decide)) rfl hl.1 rfl rfl (Nat.le_of_ble_eq_true rfl) dX1_weigh_62 ⟨Nat.zero_le _, Nat.zero_le _⟩ (fun H locs hR => ?_)
      obtain ⟨v65, e65⟩ : ∃ y : Int32, y = (x3 + (1 : Int32)) := ⟨_, rfl⟩
      have hf := nx_at e65 hf
      refine lv_iinc (v := v65) (lv' := [(3, .int v65), (4, .int q36), (0, .ref (eB E + 141)), (1, .int x1), (2, .int x2)]) hx hb dX1_weigh_65 hl (k := 4) rfl (by rw [e65]; rfl) (by decide) rfl (fun ls hl => ?_)
      refine lv_goto (tgt := 18) hx hb dX1_weigh_68 (by decide) ?_
      exact ih hf hR (lv_sub hl [2, 3, 4, 0] rfl)
set_option maxHeartbeats 4000000 in
set_option maxRecDepth 100000 in
theorem wX1_weigh_71 {M1 : Mem} (X : CX E p s m args c meth cX1_weigh 5 none RX1) : ∀ {M : Mem} {H : Heap} {locs : List Loc} {ls : Array Slot}, fX1_weigh_71 M = some M1 → Rl E (sh_ true) (nn true) s.heap M H locs → lv_has ls 5 [(0, .ref (eB E + 141))] → W p l e (rm 4 0 0) s m args below meth c H locs 0 0 (MQ below (qq E none (sh_ true) (nn true) M1) args s 0 0 (fr E)) (F0 m 71 ls []) := by
  obtain ⟨hx, hb, hr, hml, hown, hts, hK, hN, hO, hlk, hbs⟩ := id X
  intro M H locs ls hf hR hl
  unfold fX1_weigh_71 at hf
  refine lv_aload_n hx hb dX1_weigh_71 rfl (lv_at hl 0 rfl) ?_
  refine x_get hx hb hown hts hK hR kX1 z_141 (j := 1) (by decide) fl_X1_9 (v := .ref (eB E + 142)) rfl dX1_weigh_72 ?_
  obtain ⟨q75, c75, hf⟩ := br_b hf
  refine x_callS (As := [.ref (eB E + 142)]) (rest := []) (st1 := []) X hR (ctX1_sumColumns_142 c75) ml_X1_85 st_X1_sumColumns in_X1 co_X1_sumColumns yo_X1_sumColumns (rm_ok (by decide) (by decide)) rfl hl.1 rfl rfl (Nat.le_of_ble_eq_true rfl) dX1_weigh_75 ⟨Nat.zero_le _, Nat.zero_le _⟩ (fun H locs hR => ?_)
  refine lv_aload_n hx hb dX1_weigh_78 rfl (lv_at hl 0 rfl) ?_
  refine x_get hx hb hown hts hK hR kX1 z_141 (j := 2) (by decide) fl_X1_15 (v := .ref (eB E + 143)) rfl dX1_weigh_79 ?_
  obtain ⟨q82, c82, hf⟩ := br_b hf
  refine x_callS (As := [.ref (eB E + 143)]) (rest := []) (st1 := []) X hR (ctX1_sumColumns_143 c82) ml_X1_85 st_X1_sumColumns in_X1 co_X1_sumColumns yo_X1_sumColumns (rm_ok (by decide) (by decide)) rfl hl.1 rfl rfl (Nat.le_of_ble_eq_true rfl) dX1_weigh_82 ⟨Nat.zero_le _, Nat.zero_le _⟩ (fun H locs hR => ?_)
  cases hf
  exact x_vret hx hb hr hlk hR dX1_weigh_85
set_option maxHeartbeats 4000000 in
set_option maxRecDepth 100000 in
theorem wX1_weigh_0 {M1 : Mem} (X : CX E p s m args c meth cX1_weigh 5 none RX1) : ∀ {x1 : Int32} {x2 : Int32} {M : Mem} {H : Heap} {locs : List Loc} {ls : Array Slot}, fX1_weigh x1 x2 M = some M1 → Rl E (sh_ true) (nn true) s.heap M H locs → lv_has ls 5 [(0, .ref (eB E + 141)), (1, .int x1), (2, .int x2)] → W p l e (rm 4 0 0) s m args below meth c H locs 0 0 (MQ below (qq E none (sh_ true) (nn true) M1) args s 0 0 (fr E)) (F0 m 0 ls []) := by
  obtain ⟨hx, hb, hr, hml, hown, hts, hK, hN, hO, hlk, hbs⟩ := id X
  intro x1 x2 M H locs ls hf hR hl
  unfold fX1_weigh at hf
  refine lv_aload_n hx hb dX1_weigh_0 rfl (lv_at hl 0 rfl) ?_
  refine x_get hx hb hown hts hK hR kX1 z_141 (j := 1) (by decide) fl_X1_9 (v := .ref (eB E + 142)) rfl dX1_weigh_1 ?_
  refine lv_iconst (v := 0) hx hb dX1_weigh_4 (by decide) ?_
  obtain ⟨q5, c5, hf⟩ := br_b hf
  refine x_callS (As := [.ref (eB E + 142), .int (0 : Int32)]) (rest := []) (st1 := []) X hR (ctJ7_fill_53178 z_142 c5) ml_X1_68 st_J7_fill_53178 in_J7 co_J7_fill_53178 yo_J7_fill_53178 (rm_ok (by decide) (by decide)) rfl hl.1 rfl rfl (Nat.le_of_ble_eq_true rfl) dX1_weigh_5 ⟨Nat.zero_le _, Nat.zero_le _⟩ (fun H locs hR => ?_)
  refine lv_aload_n hx hb dX1_weigh_8 rfl (lv_at hl 0 rfl) ?_
  refine x_get hx hb hown hts hK hR kX1 z_141 (j := 2) (by decide) fl_X1_15 (v := .ref (eB E + 143)) rfl dX1_weigh_9 ?_
  refine lv_iconst (v := 0) hx hb dX1_weigh_12 (by decide) ?_
  obtain ⟨q13, c13, hf⟩ := br_b hf
  refine x_callS (As := [.ref (eB E + 143), .int (0 : Int32)]) (rest := []) (st1 := []) X hR (ctJ7_fill_53178 z_143 c13) ml_X1_68 st_J7_fill_53178 in_J7 co_J7_fill_53178 yo_J7_fill_53178 (rm_ok (by decide) (by decide)) rfl hl.1 rfl rfl (Nat.le_of_ble_eq_true rfl) dX1_weigh_13 ⟨Nat.zero_le _, Nat.zero_le _⟩ (fun H locs hR => ?_)
  refine lv_iconst (v := 0) hx hb dX1_weigh_16 (by decide) ?_
  refine lv_istore_n (lv' := [(3, .int (0 : Int32)), (0, .ref (eB E + 141)), (1, .int x1), (2, .int x2)]) hx hb dX1_weigh_17 rfl hl (by decide) rfl (fun ls hl => ?_)
  exact wX1_weigh_18 X (fun hf hR hl => wX1_weigh_71 X hf hR hl) FU hf hR (lv_sub hl [1, 2, 3, 0] rfl)
theorem ctX1_weigh {l : Launch} {E : Ge} {M : Mem} {x1 : Int32} {x2 : Int32} {M1 : Mem} (h : fX1_weigh x1 x2 M = some M1) : CT l E yX1_weigh cX1_weigh 5 none 4 0 0 [.ref (eB E + 141), .int x1, .int x2] none (sh_ true) (nn true) M (sh_ true) (nn true) M1 := by
  refine met_of (by decide) (Nat.le_of_ble_eq_true rfl) ?_
  intro p e s m args below meth c X _ hR ls hl
  exact wX1_weigh_0 X h hR hl
def fX1_lookFrom_152 (k70 : Int32 → Mem → Option Mem) (k158 : Mem → Option Mem) (x4 : Int32) (M : Mem) : Option Mem := nx (x4 + (1 : Int32)) (fun v152 => k70 v152 M)
def fX1_lookFrom_70 (k158 : Mem → Option Mem) : Nat → Int32 → Mem → Option Mem
  | 0, _, _ => none
  | n + 1, x4, M => (if (10000 : Int32) ≤ x4 then k158 M else (if inb x4 10000 = true then (if inb x4 10000 = true then (fX8_isEnough_t M (M.1 142 (ix x4)) ((M.1 1 7) - (M.1 143 (ix x4)))).bind (fun q110 => (if inb x4 10000 = true then nx (sI M 144 (ix x4) (q110 &&& 1)) (fun M113 => (if inb x4 10000 = true then nx (sI M113 141 7 (imax (M113.1 141 7) (M113.1 142 (ix x4)))) (fun M129 => (if inb x4 10000 = true then (if (M129.1 144 (ix x4)) = 0 then fX1_lookFrom_152 (fX1_lookFrom_70 k158 n) k158 x4 M129 else nx (sI M129 141 6 ((M129.1 141 6) + (1 : Int32))) (fun M149 => fX1_lookFrom_152 (fX1_lookFrom_70 k158 n) k158 x4 M149)) else none)) else none)) else none)) else none) else none))
def fX1_lookFrom_158 (M : Mem) : Option Mem := some M
def fX1_lookFrom_30 (x1 : Int32) (x2 : Int32) (x3 : Int32) (M : Mem) : Option Mem := nx (sI M 141 9 x3) (fun M32 => nx (sI M32 141 10 (M32.1 1 14)) (fun M43 => nx (sI M43 141 8 (-1 : Int32)) (fun M48 => (fX1_weigh x1 x2 M48).bind (fun q54 => nx (sI q54 141 6 (0 : Int32)) (fun M59 => nx (sI M59 141 7 (0 : Int32)) (fun M64 => fX1_lookFrom_70 fX1_lookFrom_158 FU (0 : Int32) M64))))))
def fX1_lookFrom (x1 : Int32) (x2 : Int32) (M : Mem) : Option Mem := nx ((x1 * (100 : Int32)) + x2) (fun v6 => (if (M.1 141 9) = v6 then (if (M.1 141 10) = (M.1 1 14) then some M else fX1_lookFrom_30 x1 x2 v6 M) else fX1_lookFrom_30 x1 x2 v6 M))
set_option maxHeartbeats 4000000 in
set_option maxRecDepth 100000 in
theorem wX1_lookFrom_152 {M1 : Mem} {k70 : Int32 → Mem → Option Mem} {k158 : Mem → Option Mem} (X : CX E p s m args c meth cX1_lookFrom 5 none RX1) (hk70 : ∀ {x4 : Int32} {M : Mem} {H : Heap} {locs : List Loc} {ls : Array Slot}, k70 x4 M = some M1 → Rl E (sh_ true) (nn true) s.heap M H locs → lv_has ls 5 [(0, .ref (eB E + 141)), (4, .int x4)] → W p l e (rm 5 0 0) s m args below meth c H locs 0 0 (MQ below (qq E none (sh_ true) (nn true) M1) args s 0 0 (fr E)) (F0 m 70 ls [])) (hk158 : ∀ {M : Mem} {H : Heap} {locs : List Loc} {ls : Array Slot}, k158 M = some M1 → Rl E (sh_ true) (nn true) s.heap M H locs → lv_has ls 5 [] → W p l e (rm 5 0 0) s m args below meth c H locs 0 0 (MQ below (qq E none (sh_ true) (nn true) M1) args s 0 0 (fr E)) (F0 m 158 ls [])) : ∀ {x4 : Int32} {M : Mem} {H : Heap} {locs : List Loc} {ls : Array Slot}, fX1_lookFrom_152 k70 k158 x4 M = some M1 → Rl E (sh_ true) (nn true) s.heap M H locs → lv_has ls 5 [(0, .ref (eB E + 141)), (4, .int x4)] → W p l e (rm 5 0 0) s m args below meth c H locs 0 0 (MQ below (qq E none (sh_ true) (nn true) M1) args s 0 0 (fr E)) (F0 m 152 ls []) := by
  obtain ⟨hx, hb, hr, hml, hown, hts, hK, hN, hO, hlk, hbs⟩ := id X
  intro x4 M H locs ls hf hR hl
  unfold fX1_lookFrom_152 at hf
  obtain ⟨v152, e152⟩ : ∃ y : Int32, y = (x4 + (1 : Int32)) := ⟨_, rfl⟩
  have hf := nx_at e152 hf
  refine lv_iinc (v := v152) (lv' := [(4, .int v152), (0, .ref (eB E + 141))]) hx hb dX1_lookFrom_152 hl (k := 1) rfl (by rw [e152]; rfl) (by decide) rfl (fun ls hl => ?_)
  refine lv_goto (tgt := 70) hx hb dX1_lookFrom_155 (by decide) ?_
  exact hk70 hf hR (lv_sub hl [1, 0] rfl)
set_option maxHeartbeats 4000000 in
set_option maxRecDepth 100000 in
theorem wX1_lookFrom_70 {M1 : Mem} {k158 : Mem → Option Mem} (X : CX E p s m args c meth cX1_lookFrom 5 none RX1) (hk158 : ∀ {M : Mem} {H : Heap} {locs : List Loc} {ls : Array Slot}, k158 M = some M1 → Rl E (sh_ true) (nn true) s.heap M H locs → lv_has ls 5 [] → W p l e (rm 5 0 0) s m args below meth c H locs 0 0 (MQ below (qq E none (sh_ true) (nn true) M1) args s 0 0 (fr E)) (F0 m 158 ls [])) : ∀ (n : Nat) {x4 : Int32} {M : Mem} {H : Heap} {locs : List Loc} {ls : Array Slot}, fX1_lookFrom_70 k158 n x4 M = some M1 → Rl E (sh_ true) (nn true) s.heap M H locs → lv_has ls 5 [(0, .ref (eB E + 141)), (4, .int x4)] → W p l e (rm 5 0 0) s m args below meth c H locs 0 0 (MQ below (qq E none (sh_ true) (nn true) M1) args s 0 0 (fr E)) (F0 m 70 ls []) := by
  obtain ⟨hx, hb, hr, hml, hown, hts, hK, hN, hO, hlk, hbs⟩ := id X
  intro n
  induction n with
  | zero =>
    intro x4 M H locs ls hf hR hl
    exact absurd (show none = some _ from hf) (fun h => by cases h)
  | succ n ih =>
    intro x4 M H locs ls hf hR hl
    rw [fX1_lookFrom_70] at hf
    refine lv_iload hx hb dX1_lookFrom_70 (lv_at hl 1 rfl) ?_
    refine lv_sipush (v := 10000) hx hb dX1_lookFrom_72 (by decide) ?_
    refine lv_icmp_ge (tgt := 158) hx hb dX1_lookFrom_75 (by decide) (fun q75 => ?_) (fun q75 => ?_)
    · have hf := (br_if hf).1 q75
      exact hk158 hf hR (lv_sub hl [] rfl)
    · have hf := (br_if hf).2 q75
      refine lv_aload_n hx hb dX1_lookFrom_78 rfl (lv_at hl 0 rfl) ?_
      refine x_get hx hb hown hts hK hR kX1 z_141 (j := 3) (by decide) fl_X1_18 (v := .ref (eB E + 144)) rfl dX1_lookFrom_79 ?_
      refine lv_iload hx hb dX1_lookFrom_82 (lv_at hl 1 rfl) ?_
      refine lv_aload_n hx hb dX1_lookFrom_84 rfl (lv_at hl 0 rfl) ?_
      refine x_get hx hb hown hts hK hR kX1 z_141 (j := 0) (by decide) fl_X1_38 (v := .ref (eB E + 1)) rfl dX1_lookFrom_85 ?_
      refine lv_aload_n hx hb dX1_lookFrom_88 rfl (lv_at hl 0 rfl) ?_
      refine x_get hx hb hown hts hK hR kX1 z_141 (j := 1) (by decide) fl_X1_9 (v := .ref (eB E + 142)) rfl dX1_lookFrom_89 ?_
      refine lv_iload hx hb dX1_lookFrom_92 (lv_at hl 1 rfl) ?_
      obtain ⟨g94, hf⟩ := br_g hf
      refine x_iald hx hb hK hR z_142 g94 dX1_lookFrom_94 ?_
      refine lv_aload_n hx hb dX1_lookFrom_95 rfl (lv_at hl 0 rfl) ?_
      refine x_get hx hb hown hts hK hR kX1 z_141 (j := 0) (by decide) fl_X1_38 (v := .ref (eB E + 1)) rfl dX1_lookFrom_96 ?_
      refine x_get hx hb hown hts hK hR kX8 (z_1 true) (j := 7) (by decide) fl_X1_55 (v := .int (M.1 1 7)) rfl dX1_lookFrom_99 ?_
      refine lv_aload_n hx hb dX1_lookFrom_102 rfl (lv_at hl 0 rfl) ?_
      refine x_get hx hb hown hts hK hR kX1 z_141 (j := 2) (by decide) fl_X1_15 (v := .ref (eB E + 143)) rfl dX1_lookFrom_103 ?_
      refine lv_iload hx hb dX1_lookFrom_106 (lv_at hl 1 rfl) ?_
      obtain ⟨g108, hf⟩ := br_g hf
      refine x_iald hx hb hK hR z_143 g108 dX1_lookFrom_108 ?_
      refine lv_isub hx hb dX1_lookFrom_109 ?_
      obtain ⟨q110, c110, hf⟩ := br_b hf
      refine x_callV (k := 1) (As := [.int (M.1 142 (ix x4)), .int ((M.1 1 7) - (M.1 143 (ix x4)))]) (rest := [.int x4, .ref (eB E + 144)]) (st1 := [.int q110, .int x4, .ref (eB E + 144)]) X hR (ctX8_isEnough_t c110) ml_X1_58 im_X8_isEnough se_X8_isEnough in_X8 co_X8_isEnough yo_X8_isEnough rfl kX8 (z_1 true) (rm_ok (by decide) (by decide)) rfl hl.1 rfl rfl (Nat.le_of_ble_eq_true rfl) dX1_lookFrom_110 ⟨Nat.zero_le _, Nat.zero_le _⟩ (fun H locs hR => ?_)
      obtain ⟨g113, hf⟩ := br_g hf
      refine x_zast hx hb hK hR z_144 g113 dX1_lookFrom_113 (fun H locs hR => ?_)
      obtain ⟨M113, e113⟩ : ∃ y : Mem, y = (sI M 144 (ix x4) (q110 &&& 1)) := ⟨_, rfl⟩
      have hf := nx_at e113 hf
      have hR : Rl E (sh_ true) (nn true) s.heap M113 H locs := by rw [e113]; exact hR
      refine lv_aload_n hx hb dX1_lookFrom_114 rfl (lv_at hl 0 rfl) ?_
      refine lv_aload_n hx hb dX1_lookFrom_115 rfl (lv_at hl 0 rfl) ?_
      refine x_get hx hb hown hts hK hR kX1 z_141 (j := 7) (by decide) fl_X1_52 (v := .int (M113.1 141 7)) rfl dX1_lookFrom_116 ?_
      refine lv_aload_n hx hb dX1_lookFrom_119 rfl (lv_at hl 0 rfl) ?_
      refine x_get hx hb hown hts hK hR kX1 z_141 (j := 1) (by decide) fl_X1_9 (v := .ref (eB E + 142)) rfl dX1_lookFrom_120 ?_
      refine lv_iload hx hb dX1_lookFrom_123 (lv_at hl 1 rfl) ?_
      obtain ⟨g125, hf⟩ := br_g hf
      refine x_iald hx hb hK hR z_142 g125 dX1_lookFrom_125 ?_
      refine va_mmax hx hb (by rw [hml]; exact hl.1.symm) hown (hts _ ml_X1_62) (hts _ st_max) (hts _ in_J9) (hts _ co_max) (by decide) (Nat.le_of_ble_eq_true rfl) (Nat.zero_le _) (Nat.zero_le _) dX1_lookFrom_126 ?_
      refine W.eq (g2 := F0 m 129 ls [.int (imax (M113.1 141 7) (M113.1 142 (ix x4))), .ref (eB E + 141)]) rfl ?_
      refine x_puti hx hb hown hts hK hR kX1 z_141 (j := 7) (by decide) fl_X1_52 rfl rfl rfl rfl dX1_lookFrom_129 (fun H locs hR => ?_)
      obtain ⟨M129, e129⟩ : ∃ y : Mem, y = (sI M113 141 7 (imax (M113.1 141 7) (M113.1 142 (ix x4)))) := ⟨_, rfl⟩
      have hf := nx_at e129 hf
      have hR : Rl E (sh_ true) (nn true) s.heap M129 H locs := by rw [e129]; exact hR
      refine lv_aload_n hx hb dX1_lookFrom_132 rfl (lv_at hl 0 rfl) ?_
      refine x_get hx hb hown hts hK hR kX1 z_141 (j := 3) (by decide) fl_X1_18 (v := .ref (eB E + 144)) rfl dX1_lookFrom_133 ?_
      refine lv_iload hx hb dX1_lookFrom_136 (lv_at hl 1 rfl) ?_
      obtain ⟨g138, hf⟩ := br_g hf
      refine x_zald hx hb hK hR z_144 g138 dX1_lookFrom_138 ?_
      refine lv_if_eq (tgt := 152) hx hb dX1_lookFrom_139 (by decide) (fun q139 => ?_) (fun q139 => ?_)
      · have hf := (br_if hf).1 q139
        exact wX1_lookFrom_152 X (fun hf hR hl => ih hf hR hl) (fun hf hR hl => hk158 hf hR hl) hf hR hl
      · have hf := (br_if hf).2 q139
        refine lv_aload_n hx hb dX1_lookFrom_142 rfl (lv_at hl 0 rfl) ?_
        refine lv_dup hx hb dX1_lookFrom_143 rfl ?_
        refine x_get hx hb hown hts hK hR kX1 z_141 (j := 6) (by decide) fl_X1_49 (v := .int (M129.1 141 6)) rfl dX1_lookFrom_144 ?_
        refine lv_iconst (v := 1) hx hb dX1_lookFrom_147 (by decide) ?_
        refine lv_iadd hx hb dX1_lookFrom_148 ?_
        refine x_puti hx hb hown hts hK hR kX1 z_141 (j := 6) (by decide) fl_X1_49 rfl rfl rfl rfl dX1_lookFrom_149 (fun H locs hR => ?_)
        obtain ⟨M149, e149⟩ : ∃ y : Mem, y = (sI M129 141 6 ((M129.1 141 6) + (1 : Int32))) := ⟨_, rfl⟩
        have hf := nx_at e149 hf
        have hR : Rl E (sh_ true) (nn true) s.heap M149 H locs := by rw [e149]; exact hR
        exact wX1_lookFrom_152 X (fun hf hR hl => ih hf hR hl) (fun hf hR hl => hk158 hf hR hl) hf hR hl
set_option maxHeartbeats 4000000 in
set_option maxRecDepth 100000 in
theorem wX1_lookFrom_158 {M1 : Mem} (X : CX E p s m args c meth cX1_lookFrom 5 none RX1) : ∀ {M : Mem} {H : Heap} {locs : List Loc} {ls : Array Slot}, fX1_lookFrom_158 M = some M1 → Rl E (sh_ true) (nn true) s.heap M H locs → lv_has ls 5 [] → W p l e (rm 5 0 0) s m args below meth c H locs 0 0 (MQ below (qq E none (sh_ true) (nn true) M1) args s 0 0 (fr E)) (F0 m 158 ls []) := by
  obtain ⟨hx, hb, hr, hml, hown, hts, hK, hN, hO, hlk, hbs⟩ := id X
  intro M H locs ls hf hR hl
  unfold fX1_lookFrom_158 at hf
  cases hf
  exact x_vret hx hb hr hlk hR dX1_lookFrom_158
set_option maxHeartbeats 4000000 in
set_option maxRecDepth 100000 in
theorem wX1_lookFrom_30 {M1 : Mem} (X : CX E p s m args c meth cX1_lookFrom 5 none RX1) : ∀ {x1 : Int32} {x2 : Int32} {x3 : Int32} {M : Mem} {H : Heap} {locs : List Loc} {ls : Array Slot}, fX1_lookFrom_30 x1 x2 x3 M = some M1 → Rl E (sh_ true) (nn true) s.heap M H locs → lv_has ls 5 [(0, .ref (eB E + 141)), (1, .int x1), (2, .int x2), (3, .int x3)] → W p l e (rm 5 0 0) s m args below meth c H locs 0 0 (MQ below (qq E none (sh_ true) (nn true) M1) args s 0 0 (fr E)) (F0 m 30 ls []) := by
  obtain ⟨hx, hb, hr, hml, hown, hts, hK, hN, hO, hlk, hbs⟩ := id X
  intro x1 x2 x3 M H locs ls hf hR hl
  unfold fX1_lookFrom_30 at hf
  refine lv_aload_n hx hb dX1_lookFrom_30 rfl (lv_at hl 0 rfl) ?_
  refine lv_iload_n hx hb dX1_lookFrom_31 rfl (lv_at hl 3 rfl) ?_
  refine x_puti hx hb hown hts hK hR kX1 z_141 (j := 9) (by decide) fl_X1_32 rfl rfl rfl rfl dX1_lookFrom_32 (fun H locs hR => ?_)
  obtain ⟨M32, e32⟩ : ∃ y : Mem, y = (sI M 141 9 x3) := ⟨_, rfl⟩
  have hf := nx_at e32 hf
  have hR : Rl E (sh_ true) (nn true) s.heap M32 H locs := by rw [e32]; exact hR
  refine lv_aload_n hx hb dX1_lookFrom_35 rfl (lv_at hl 0 rfl) ?_
  refine lv_aload_n hx hb dX1_lookFrom_36 rfl (lv_at hl 0 rfl) ?_
  refine x_get hx hb hown hts hK hR kX1 z_141 (j := 0) (by decide) fl_X1_38 (v := .ref (eB E + 1)) rfl dX1_lookFrom_37 ?_
  refine x_get hx hb hown hts hK hR kX8 (z_1 true) (j := 14) (by decide) fl_X1_42 (v := .int (M32.1 1 14)) rfl dX1_lookFrom_40 ?_
  refine x_puti hx hb hown hts hK hR kX1 z_141 (j := 10) (by decide) fl_X1_35 rfl rfl rfl rfl dX1_lookFrom_43 (fun H locs hR => ?_)
  obtain ⟨M43, e43⟩ : ∃ y : Mem, y = (sI M32 141 10 (M32.1 1 14)) := ⟨_, rfl⟩
  have hf := nx_at e43 hf
  have hR : Rl E (sh_ true) (nn true) s.heap M43 H locs := by rw [e43]; exact hR
  refine lv_aload_n hx hb dX1_lookFrom_46 rfl (lv_at hl 0 rfl) ?_
  refine lv_iconst (v := -1) hx hb dX1_lookFrom_47 (by decide) ?_
  refine x_puti hx hb hown hts hK hR kX1 z_141 (j := 8) (by decide) fl_X1_28 rfl rfl rfl rfl dX1_lookFrom_48 (fun H locs hR => ?_)
  obtain ⟨M48, e48⟩ : ∃ y : Mem, y = (sI M43 141 8 (-1 : Int32)) := ⟨_, rfl⟩
  have hf := nx_at e48 hf
  have hR : Rl E (sh_ true) (nn true) s.heap M48 H locs := by rw [e48]; exact hR
  refine lv_aload_n hx hb dX1_lookFrom_51 rfl (lv_at hl 0 rfl) ?_
  refine lv_iload_n hx hb dX1_lookFrom_52 rfl (lv_at hl 1 rfl) ?_
  refine lv_iload_n hx hb dX1_lookFrom_53 rfl (lv_at hl 2 rfl) ?_
  obtain ⟨q54, c54, hf⟩ := br_b hf
  refine x_callV (k := 141) (As := [.int x1, .int x2]) (rest := []) (st1 := []) X hR (ctX1_weigh c54) ml_X1_45 im_X1_weigh se_X1_weigh in_X1 co_X1_weigh yo_X1_weigh rfl kX1 z_141 (rm_ok (by decide) (by decide)) rfl hl.1 rfl rfl (Nat.le_of_ble_eq_true rfl) dX1_lookFrom_54 ⟨Nat.zero_le _, Nat.zero_le _⟩ (fun H locs hR => ?_)
  refine lv_aload_n hx hb dX1_lookFrom_57 rfl (lv_at hl 0 rfl) ?_
  refine lv_iconst (v := 0) hx hb dX1_lookFrom_58 (by decide) ?_
  refine x_puti hx hb hown hts hK hR kX1 z_141 (j := 6) (by decide) fl_X1_49 rfl rfl rfl rfl dX1_lookFrom_59 (fun H locs hR => ?_)
  obtain ⟨M59, e59⟩ : ∃ y : Mem, y = (sI q54 141 6 (0 : Int32)) := ⟨_, rfl⟩
  have hf := nx_at e59 hf
  have hR : Rl E (sh_ true) (nn true) s.heap M59 H locs := by rw [e59]; exact hR
  refine lv_aload_n hx hb dX1_lookFrom_62 rfl (lv_at hl 0 rfl) ?_
  refine lv_iconst (v := 0) hx hb dX1_lookFrom_63 (by decide) ?_
  refine x_puti hx hb hown hts hK hR kX1 z_141 (j := 7) (by decide) fl_X1_52 rfl rfl rfl rfl dX1_lookFrom_64 (fun H locs hR => ?_)
  obtain ⟨M64, e64⟩ : ∃ y : Mem, y = (sI M59 141 7 (0 : Int32)) := ⟨_, rfl⟩
  have hf := nx_at e64 hf
  have hR : Rl E (sh_ true) (nn true) s.heap M64 H locs := by rw [e64]; exact hR
  refine lv_iconst (v := 0) hx hb dX1_lookFrom_67 (by decide) ?_
  refine lv_istore (lv' := [(4, .int (0 : Int32)), (0, .ref (eB E + 141)), (1, .int x1), (2, .int x2), (3, .int x3)]) hx hb dX1_lookFrom_68 hl (by decide) rfl (fun ls hl => ?_)
  exact wX1_lookFrom_70 X (fun hf hR hl => wX1_lookFrom_158 X hf hR hl) FU hf hR (lv_sub hl [1, 0] rfl)
set_option maxHeartbeats 4000000 in
set_option maxRecDepth 100000 in
theorem wX1_lookFrom_0 {M1 : Mem} (X : CX E p s m args c meth cX1_lookFrom 5 none RX1) : ∀ {x1 : Int32} {x2 : Int32} {M : Mem} {H : Heap} {locs : List Loc} {ls : Array Slot}, fX1_lookFrom x1 x2 M = some M1 → Rl E (sh_ true) (nn true) s.heap M H locs → lv_has ls 5 [(0, .ref (eB E + 141)), (1, .int x1), (2, .int x2)] → W p l e (rm 5 0 0) s m args below meth c H locs 0 0 (MQ below (qq E none (sh_ true) (nn true) M1) args s 0 0 (fr E)) (F0 m 0 ls []) := by
  obtain ⟨hx, hb, hr, hml, hown, hts, hK, hN, hO, hlk, hbs⟩ := id X
  intro x1 x2 M H locs ls hf hR hl
  unfold fX1_lookFrom at hf
  refine lv_iload_n hx hb dX1_lookFrom_0 rfl (lv_at hl 1 rfl) ?_
  refine lv_bipush (v := 100) hx hb dX1_lookFrom_1 (by decide) ?_
  refine lv_imul hx hb dX1_lookFrom_3 ?_
  refine lv_iload_n hx hb dX1_lookFrom_4 rfl (lv_at hl 2 rfl) ?_
  refine lv_iadd hx hb dX1_lookFrom_5 ?_
  refine lv_topi (fun v6 e6 => ?_)
  have hf := nx_at e6 hf
  refine lv_istore_n (lv' := [(3, .int v6), (0, .ref (eB E + 141)), (1, .int x1), (2, .int x2)]) hx hb dX1_lookFrom_6 rfl hl (by decide) rfl (fun ls hl => ?_)
  refine lv_aload_n hx hb dX1_lookFrom_7 rfl (lv_at hl 1 rfl) ?_
  refine x_get hx hb hown hts hK hR kX1 z_141 (j := 9) (by decide) fl_X1_32 (v := .int (M.1 141 9)) rfl dX1_lookFrom_8 ?_
  refine lv_iload_n hx hb dX1_lookFrom_11 rfl (lv_at hl 0 rfl) ?_
  refine lv_icmp_ne (tgt := 30) hx hb dX1_lookFrom_12 (by decide) (fun q12 => ?_) (fun q12 => ?_)
  · have hf := (br_if hf).2 q12
    exact wX1_lookFrom_30 X hf hR (lv_sub hl [1, 2, 3, 0] rfl)
  · have hf := (br_if hf).1 q12
    refine lv_aload_n hx hb dX1_lookFrom_15 rfl (lv_at hl 1 rfl) ?_
    refine x_get hx hb hown hts hK hR kX1 z_141 (j := 10) (by decide) fl_X1_35 (v := .int (M.1 141 10)) rfl dX1_lookFrom_16 ?_
    refine lv_aload_n hx hb dX1_lookFrom_19 rfl (lv_at hl 1 rfl) ?_
    refine x_get hx hb hown hts hK hR kX1 z_141 (j := 0) (by decide) fl_X1_38 (v := .ref (eB E + 1)) rfl dX1_lookFrom_20 ?_
    refine x_get hx hb hown hts hK hR kX8 (z_1 true) (j := 14) (by decide) fl_X1_42 (v := .int (M.1 1 14)) rfl dX1_lookFrom_23 ?_
    refine lv_icmp_ne (tgt := 30) hx hb dX1_lookFrom_26 (by decide) (fun q26 => ?_) (fun q26 => ?_)
    · have hf := (br_if hf).2 q26
      exact wX1_lookFrom_30 X hf hR (lv_sub hl [1, 2, 3, 0] rfl)
    · have hf := (br_if hf).1 q26
      cases hf
      exact x_vret hx hb hr hlk hR dX1_lookFrom_29
theorem ctX1_lookFrom {l : Launch} {E : Ge} {M : Mem} {x1 : Int32} {x2 : Int32} {M1 : Mem} (h : fX1_lookFrom x1 x2 M = some M1) : CT l E yX1_lookFrom cX1_lookFrom 5 none 5 0 0 [.ref (eB E + 141), .int x1, .int x2] none (sh_ true) (nn true) M (sh_ true) (nn true) M1 := by
  refine met_of (by decide) (Nat.le_of_ble_eq_true rfl) ?_
  intro p e s m args below meth c X _ hR ls hl
  exact wX1_lookFrom_0 X h hR hl
def fX1_takePoint_16 (x2 : Int32) (M : Mem) : Option (Int32 × Mem) := some (x2, M)
def fX1_takePoint (x1 : Int32) (x2 : Int32) (M : Mem) : Option (Int32 × Mem) := (if inb x1 10000 = true then (if (M.1 144 (ix x1)) = 0 then fX1_takePoint_16 x2 M else (if x2 < (10000 : Int32) then (if inb x1 10000 = true then nx (sI M 144 (ix x1) ((0 : Int32) &&& 1)) (fun M24 => (if inb x2 10000 = true then nx (sI M24 145 (ix x2) x1) (fun M31 => some ((x2 + (1 : Int32)), M31)) else none)) else none) else fX1_takePoint_16 x2 M)) else none)
set_option maxHeartbeats 4000000 in
set_option maxRecDepth 100000 in
theorem wX1_takePoint_16 {r : Int32} {M1 : Mem} (X : CX E p s m args c meth cX1_takePoint 3 (some .int) RX1) : ∀ {x2 : Int32} {M : Mem} {H : Heap} {locs : List Loc} {ls : Array Slot}, fX1_takePoint_16 x2 M = some (r, M1) → Rl E (sh_ true) (nn true) s.heap M H locs → lv_has ls 3 [(2, .int x2)] → W p l e (rm 1 0 0) s m args below meth c H locs 0 0 (MQ below (qq E (some (.int r)) (sh_ true) (nn true) M1) args s 0 0 (fr E)) (F0 m 16 ls []) := by
  obtain ⟨hx, hb, hr, hml, hown, hts, hK, hN, hO, hlk, hbs⟩ := id X
  intro x2 M H locs ls hf hR hl
  unfold fX1_takePoint_16 at hf
  refine lv_iload_n hx hb dX1_takePoint_16 rfl (lv_at hl 0 rfl) ?_
  cases hf
  exact x_iret hx hb hr hlk hR dX1_takePoint_17
set_option maxHeartbeats 4000000 in
set_option maxRecDepth 100000 in
theorem wX1_takePoint_0 {r : Int32} {M1 : Mem} (X : CX E p s m args c meth cX1_takePoint 3 (some .int) RX1) : ∀ {x1 : Int32} {x2 : Int32} {M : Mem} {H : Heap} {locs : List Loc} {ls : Array Slot}, fX1_takePoint x1 x2 M = some (r, M1) → Rl E (sh_ true) (nn true) s.heap M H locs → lv_has ls 3 [(0, .ref (eB E + 141)), (1, .int x1), (2, .int x2)] → W p l e (rm 1 0 0) s m args below meth c H locs 0 0 (MQ below (qq E (some (.int r)) (sh_ true) (nn true) M1) args s 0 0 (fr E)) (F0 m 0 ls []) := by
  obtain ⟨hx, hb, hr, hml, hown, hts, hK, hN, hO, hlk, hbs⟩ := id X
  intro x1 x2 M H locs ls hf hR hl
  unfold fX1_takePoint at hf
  refine lv_aload_n hx hb dX1_takePoint_0 rfl (lv_at hl 0 rfl) ?_
  refine x_get hx hb hown hts hK hR kX1 z_141 (j := 3) (by decide) fl_X1_18 (v := .ref (eB E + 144)) rfl dX1_takePoint_1 ?_
  refine lv_iload_n hx hb dX1_takePoint_4 rfl (lv_at hl 1 rfl) ?_
  obtain ⟨g5, hf⟩ := br_g hf
  refine x_zald hx hb hK hR z_144 g5 dX1_takePoint_5 ?_
  refine lv_if_eq (tgt := 16) hx hb dX1_takePoint_6 (by decide) (fun q6 => ?_) (fun q6 => ?_)
  · have hf := (br_if hf).1 q6
    exact wX1_takePoint_16 X hf hR (lv_sub hl [2] rfl)
  · have hf := (br_if hf).2 q6
    refine lv_iload_n hx hb dX1_takePoint_9 rfl (lv_at hl 2 rfl) ?_
    refine lv_sipush (v := 10000) hx hb dX1_takePoint_10 (by decide) ?_
    refine lv_icmp_lt (tgt := 18) hx hb dX1_takePoint_13 (by decide) (fun q13 => ?_) (fun q13 => ?_)
    · have hf := (br_if hf).1 q13
      refine lv_aload_n hx hb dX1_takePoint_18 rfl (lv_at hl 0 rfl) ?_
      refine x_get hx hb hown hts hK hR kX1 z_141 (j := 3) (by decide) fl_X1_18 (v := .ref (eB E + 144)) rfl dX1_takePoint_19 ?_
      refine lv_iload_n hx hb dX1_takePoint_22 rfl (lv_at hl 1 rfl) ?_
      refine lv_iconst (v := 0) hx hb dX1_takePoint_23 (by decide) ?_
      obtain ⟨g24, hf⟩ := br_g hf
      refine x_zast hx hb hK hR z_144 g24 dX1_takePoint_24 (fun H locs hR => ?_)
      obtain ⟨M24, e24⟩ : ∃ y : Mem, y = (sI M 144 (ix x1) ((0 : Int32) &&& 1)) := ⟨_, rfl⟩
      have hf := nx_at e24 hf
      have hR : Rl E (sh_ true) (nn true) s.heap M24 H locs := by rw [e24]; exact hR
      refine lv_aload_n hx hb dX1_takePoint_25 rfl (lv_at hl 0 rfl) ?_
      refine x_get hx hb hown hts hK hR kX1 z_141 (j := 4) (by decide) fl_X1_22 (v := .ref (eB E + 145)) rfl dX1_takePoint_26 ?_
      refine lv_iload_n hx hb dX1_takePoint_29 rfl (lv_at hl 2 rfl) ?_
      refine lv_iload_n hx hb dX1_takePoint_30 rfl (lv_at hl 1 rfl) ?_
      obtain ⟨g31, hf⟩ := br_g hf
      refine x_iast hx hb hK hR z_145 g31 dX1_takePoint_31 (fun H locs hR => ?_)
      obtain ⟨M31, e31⟩ : ∃ y : Mem, y = (sI M24 145 (ix x2) x1) := ⟨_, rfl⟩
      have hf := nx_at e31 hf
      have hR : Rl E (sh_ true) (nn true) s.heap M31 H locs := by rw [e31]; exact hR
      refine lv_iload_n hx hb dX1_takePoint_32 rfl (lv_at hl 2 rfl) ?_
      refine lv_iconst (v := 1) hx hb dX1_takePoint_33 (by decide) ?_
      refine lv_iadd hx hb dX1_takePoint_34 ?_
      cases hf
      exact x_iret hx hb hr hlk hR dX1_takePoint_35
    · have hf := (br_if hf).2 q13
      exact wX1_takePoint_16 X hf hR (lv_sub hl [2] rfl)
theorem ctX1_takePoint {l : Launch} {E : Ge} {M : Mem} {x1 : Int32} {x2 : Int32} {r : Int32} {M1 : Mem} (h : fX1_takePoint x1 x2 M = some (r, M1)) : CT l E yX1_takePoint cX1_takePoint 3 (some .int) 1 0 0 [.ref (eB E + 141), .int x1, .int x2] (some (.int r)) (sh_ true) (nn true) M (sh_ true) (nn true) M1 := by
  refine met_of (by decide) (Nat.le_of_ble_eq_true rfl) ?_
  intro p e s m args below meth c X _ hR ls hl
  exact wX1_takePoint_0 X h hR hl
def fX1_takePiece_108 (k10 : Int32 → Int32 → Mem → Option (Int32 × Mem)) (k114 : Int32 → Mem → Option (Int32 × Mem)) (x3 : Int32) (x4 : Int32) (M : Mem) : Option (Int32 × Mem) := nx (x4 + (1 : Int32)) (fun v108 => k10 x3 v108 M)
def fX1_takePiece_89 (k10 : Int32 → Int32 → Mem → Option (Int32 × Mem)) (k114 : Int32 → Mem → Option (Int32 × Mem)) (x3 : Int32) (x4 : Int32) (x5 : Int32) (M : Mem) : Option (Int32 × Mem) := (if (9900 : Int32) ≤ x5 then fX1_takePiece_108 k10 k114 x3 x4 M else (fX1_takePoint (x5 + (100 : Int32)) x3 M).bind (fun q104 => nx (q104.1) (fun v107 => fX1_takePiece_108 k10 k114 v107 x4 (q104.2))))
def fX1_takePiece_71 (k10 : Int32 → Int32 → Mem → Option (Int32 × Mem)) (k114 : Int32 → Mem → Option (Int32 × Mem)) (x3 : Int32) (x4 : Int32) (x5 : Int32) (M : Mem) : Option (Int32 × Mem) := (if x5 < (100 : Int32) then fX1_takePiece_89 k10 k114 x3 x4 x5 M else (fX1_takePoint (x5 - (100 : Int32)) x3 M).bind (fun q85 => nx (q85.1) (fun v88 => fX1_takePiece_89 k10 k114 v88 x4 x5 (q85.2))))
def fX1_takePiece_51 (k10 : Int32 → Int32 → Mem → Option (Int32 × Mem)) (k114 : Int32 → Mem → Option (Int32 × Mem)) (x3 : Int32) (x4 : Int32) (x5 : Int32) (M : Mem) : Option (Int32 × Mem) := (if (99 : Int32) ≤ (irm x5 (100 : Int32)) then fX1_takePiece_71 k10 k114 x3 x4 x5 M else (fX1_takePoint (x5 + (1 : Int32)) x3 M).bind (fun q67 => nx (q67.1) (fun v70 => fX1_takePiece_71 k10 k114 v70 x4 x5 (q67.2))))
def fX1_takePiece_10 (k114 : Int32 → Mem → Option (Int32 × Mem)) : Nat → Int32 → Int32 → Mem → Option (Int32 × Mem)
  | 0, _, _, _ => none
  | n + 1, x3, x4, M => (if x3 ≤ x4 then k114 x3 M else (if (10000 : Int32) ≤ x4 then k114 x3 M else (if inb x4 10000 = true then nx (M.1 145 (ix x4)) (fun v31 => (if (irm v31 (100 : Int32)) ≤ 0 then fX1_takePiece_51 (fX1_takePiece_10 k114 n) k114 x3 x4 v31 M else (fX1_takePoint (v31 - (1 : Int32)) x3 M).bind (fun q47 => nx (q47.1) (fun v50 => fX1_takePiece_51 (fX1_takePiece_10 k114 n) k114 v50 x4 v31 (q47.2))))) else none)))
def fX1_takePiece_114 (x3 : Int32) (M : Mem) : Option (Int32 × Mem) := some (x3, M)
def fX1_takePiece (x1 : Int32) (x2 : Int32) (M : Mem) : Option (Int32 × Mem) := (fX1_takePoint x1 x2 M).bind (fun q3 => nx (q3.1) (fun v6 => fX1_takePiece_10 fX1_takePiece_114 FU v6 x2 (q3.2)))
set_option maxHeartbeats 4000000 in
set_option maxRecDepth 100000 in
theorem wX1_takePiece_108 {r : Int32} {M1 : Mem} {k10 : Int32 → Int32 → Mem → Option (Int32 × Mem)} {k114 : Int32 → Mem → Option (Int32 × Mem)} (X : CX E p s m args c meth cX1_takePiece 6 (some .int) RX1) (hk10 : ∀ {x3 : Int32} {x4 : Int32} {M : Mem} {H : Heap} {locs : List Loc} {ls : Array Slot}, k10 x3 x4 M = some (r, M1) → Rl E (sh_ true) (nn true) s.heap M H locs → lv_has ls 6 [(0, .ref (eB E + 141)), (3, .int x3), (4, .int x4)] → W p l e (rm 2 0 0) s m args below meth c H locs 0 0 (MQ below (qq E (some (.int r)) (sh_ true) (nn true) M1) args s 0 0 (fr E)) (F0 m 10 ls [])) (hk114 : ∀ {x3 : Int32} {M : Mem} {H : Heap} {locs : List Loc} {ls : Array Slot}, k114 x3 M = some (r, M1) → Rl E (sh_ true) (nn true) s.heap M H locs → lv_has ls 6 [(3, .int x3)] → W p l e (rm 2 0 0) s m args below meth c H locs 0 0 (MQ below (qq E (some (.int r)) (sh_ true) (nn true) M1) args s 0 0 (fr E)) (F0 m 114 ls [])) : ∀ {x3 : Int32} {x4 : Int32} {M : Mem} {H : Heap} {locs : List Loc} {ls : Array Slot}, fX1_takePiece_108 k10 k114 x3 x4 M = some (r, M1) → Rl E (sh_ true) (nn true) s.heap M H locs → lv_has ls 6 [(0, .ref (eB E + 141)), (3, .int x3), (4, .int x4)] → W p l e (rm 2 0 0) s m args below meth c H locs 0 0 (MQ below (qq E (some (.int r)) (sh_ true) (nn true) M1) args s 0 0 (fr E)) (F0 m 108 ls []) := by
  obtain ⟨hx, hb, hr, hml, hown, hts, hK, hN, hO, hlk, hbs⟩ := id X
  intro x3 x4 M H locs ls hf hR hl
  unfold fX1_takePiece_108 at hf
  obtain ⟨v108, e108⟩ : ∃ y : Int32, y = (x4 + (1 : Int32)) := ⟨_, rfl⟩
  have hf := nx_at e108 hf
  refine lv_iinc (v := v108) (lv' := [(4, .int v108), (0, .ref (eB E + 141)), (3, .int x3)]) hx hb dX1_takePiece_108 hl (k := 2) rfl (by rw [e108]; rfl) (by decide) rfl (fun ls hl => ?_)
  refine lv_goto (tgt := 10) hx hb dX1_takePiece_111 (by decide) ?_
  exact hk10 hf hR (lv_sub hl [1, 2, 0] rfl)
set_option maxHeartbeats 4000000 in
set_option maxRecDepth 100000 in
theorem wX1_takePiece_89 {r : Int32} {M1 : Mem} {k10 : Int32 → Int32 → Mem → Option (Int32 × Mem)} {k114 : Int32 → Mem → Option (Int32 × Mem)} (X : CX E p s m args c meth cX1_takePiece 6 (some .int) RX1) (hk10 : ∀ {x3 : Int32} {x4 : Int32} {M : Mem} {H : Heap} {locs : List Loc} {ls : Array Slot}, k10 x3 x4 M = some (r, M1) → Rl E (sh_ true) (nn true) s.heap M H locs → lv_has ls 6 [(0, .ref (eB E + 141)), (3, .int x3), (4, .int x4)] → W p l e (rm 2 0 0) s m args below meth c H locs 0 0 (MQ below (qq E (some (.int r)) (sh_ true) (nn true) M1) args s 0 0 (fr E)) (F0 m 10 ls [])) (hk114 : ∀ {x3 : Int32} {M : Mem} {H : Heap} {locs : List Loc} {ls : Array Slot}, k114 x3 M = some (r, M1) → Rl E (sh_ true) (nn true) s.heap M H locs → lv_has ls 6 [(3, .int x3)] → W p l e (rm 2 0 0) s m args below meth c H locs 0 0 (MQ below (qq E (some (.int r)) (sh_ true) (nn true) M1) args s 0 0 (fr E)) (F0 m 114 ls [])) : ∀ {x3 : Int32} {x4 : Int32} {x5 : Int32} {M : Mem} {H : Heap} {locs : List Loc} {ls : Array Slot}, fX1_takePiece_89 k10 k114 x3 x4 x5 M = some (r, M1) → Rl E (sh_ true) (nn true) s.heap M H locs → lv_has ls 6 [(0, .ref (eB E + 141)), (3, .int x3), (4, .int x4), (5, .int x5)] → W p l e (rm 2 0 0) s m args below meth c H locs 0 0 (MQ below (qq E (some (.int r)) (sh_ true) (nn true) M1) args s 0 0 (fr E)) (F0 m 89 ls []) := by
  obtain ⟨hx, hb, hr, hml, hown, hts, hK, hN, hO, hlk, hbs⟩ := id X
  intro x3 x4 x5 M H locs ls hf hR hl
  unfold fX1_takePiece_89 at hf
  refine lv_iload hx hb dX1_takePiece_89 (lv_at hl 3 rfl) ?_
  refine lv_sipush (v := 9900) hx hb dX1_takePiece_91 (by decide) ?_
  refine lv_icmp_ge (tgt := 108) hx hb dX1_takePiece_94 (by decide) (fun q94 => ?_) (fun q94 => ?_)
  · have hf := (br_if hf).1 q94
    exact wX1_takePiece_108 X (fun hf hR hl => hk10 hf hR hl) (fun hf hR hl => hk114 hf hR hl) hf hR (lv_sub hl [0, 1, 2] rfl)
  · have hf := (br_if hf).2 q94
    refine lv_aload_n hx hb dX1_takePiece_97 rfl (lv_at hl 0 rfl) ?_
    refine lv_iload hx hb dX1_takePiece_98 (lv_at hl 3 rfl) ?_
    refine lv_bipush (v := 100) hx hb dX1_takePiece_100 (by decide) ?_
    refine lv_iadd hx hb dX1_takePiece_102 ?_
    refine lv_iload_n hx hb dX1_takePiece_103 rfl (lv_at hl 1 rfl) ?_
    obtain ⟨q104, c104, hf⟩ := br_b hf
    refine x_callV (k := 141) (As := [.int (x5 + (100 : Int32)), .int x3]) (rest := []) (st1 := [.int q104.1]) X hR (ctX1_takePoint c104) ml_X1_108 im_X1_takePoint se_X1_takePoint in_X1 co_X1_takePoint yo_X1_takePoint rfl kX1 z_141 (rm_ok (by decide) (by decide)) rfl hl.1 rfl rfl (Nat.le_of_ble_eq_true rfl) dX1_takePiece_104 ⟨Nat.zero_le _, Nat.zero_le _⟩ (fun H locs hR => ?_)
    refine lv_topi (fun v107 e107 => ?_)
    have hf := nx_at e107 hf
    refine lv_istore_n (lv' := [(3, .int v107), (0, .ref (eB E + 141)), (4, .int x4), (5, .int x5)]) hx hb dX1_takePiece_107 rfl hl (by decide) rfl (fun ls hl => ?_)
    exact wX1_takePiece_108 X (fun hf hR hl => hk10 hf hR hl) (fun hf hR hl => hk114 hf hR hl) hf hR (lv_sub hl [1, 0, 2] rfl)
set_option maxHeartbeats 4000000 in
set_option maxRecDepth 100000 in
theorem wX1_takePiece_71 {r : Int32} {M1 : Mem} {k10 : Int32 → Int32 → Mem → Option (Int32 × Mem)} {k114 : Int32 → Mem → Option (Int32 × Mem)} (X : CX E p s m args c meth cX1_takePiece 6 (some .int) RX1) (hk10 : ∀ {x3 : Int32} {x4 : Int32} {M : Mem} {H : Heap} {locs : List Loc} {ls : Array Slot}, k10 x3 x4 M = some (r, M1) → Rl E (sh_ true) (nn true) s.heap M H locs → lv_has ls 6 [(0, .ref (eB E + 141)), (3, .int x3), (4, .int x4)] → W p l e (rm 2 0 0) s m args below meth c H locs 0 0 (MQ below (qq E (some (.int r)) (sh_ true) (nn true) M1) args s 0 0 (fr E)) (F0 m 10 ls [])) (hk114 : ∀ {x3 : Int32} {M : Mem} {H : Heap} {locs : List Loc} {ls : Array Slot}, k114 x3 M = some (r, M1) → Rl E (sh_ true) (nn true) s.heap M H locs → lv_has ls 6 [(3, .int x3)] → W p l e (rm 2 0 0) s m args below meth c H locs 0 0 (MQ below (qq E (some (.int r)) (sh_ true) (nn true) M1) args s 0 0 (fr E)) (F0 m 114 ls [])) : ∀ {x3 : Int32} {x4 : Int32} {x5 : Int32} {M : Mem} {H : Heap} {locs : List Loc} {ls : Array Slot}, fX1_takePiece_71 k10 k114 x3 x4 x5 M = some (r, M1) → Rl E (sh_ true) (nn true) s.heap M H locs → lv_has ls 6 [(0, .ref (eB E + 141)), (3, .int x3), (4, .int x4), (5, .int x5)] → W p l e (rm 2 0 0) s m args below meth c H locs 0 0 (MQ below (qq E (some (.int r)) (sh_ true) (nn true) M1) args s 0 0 (fr E)) (F0 m 71 ls []) := by
  obtain ⟨hx, hb, hr, hml, hown, hts, hK, hN, hO, hlk, hbs⟩ := id X
  intro x3 x4 x5 M H locs ls hf hR hl
  unfold fX1_takePiece_71 at hf
  refine lv_iload hx hb dX1_takePiece_71 (lv_at hl 3 rfl) ?_
  refine lv_bipush (v := 100) hx hb dX1_takePiece_73 (by decide) ?_
  refine lv_icmp_lt (tgt := 89) hx hb dX1_takePiece_75 (by decide) (fun q75 => ?_) (fun q75 => ?_)
  · have hf := (br_if hf).1 q75
    exact wX1_takePiece_89 X (fun hf hR hl => hk10 hf hR hl) (fun hf hR hl => hk114 hf hR hl) hf hR hl
  · have hf := (br_if hf).2 q75
    refine lv_aload_n hx hb dX1_takePiece_78 rfl (lv_at hl 0 rfl) ?_
    refine lv_iload hx hb dX1_takePiece_79 (lv_at hl 3 rfl) ?_
    refine lv_bipush (v := 100) hx hb dX1_takePiece_81 (by decide) ?_
    refine lv_isub hx hb dX1_takePiece_83 ?_
    refine lv_iload_n hx hb dX1_takePiece_84 rfl (lv_at hl 1 rfl) ?_
    obtain ⟨q85, c85, hf⟩ := br_b hf
    refine x_callV (k := 141) (As := [.int (x5 - (100 : Int32)), .int x3]) (rest := []) (st1 := [.int q85.1]) X hR (ctX1_takePoint c85) ml_X1_108 im_X1_takePoint se_X1_takePoint in_X1 co_X1_takePoint yo_X1_takePoint rfl kX1 z_141 (rm_ok (by decide) (by decide)) rfl hl.1 rfl rfl (Nat.le_of_ble_eq_true rfl) dX1_takePiece_85 ⟨Nat.zero_le _, Nat.zero_le _⟩ (fun H locs hR => ?_)
    refine lv_topi (fun v88 e88 => ?_)
    have hf := nx_at e88 hf
    refine lv_istore_n (lv' := [(3, .int v88), (0, .ref (eB E + 141)), (4, .int x4), (5, .int x5)]) hx hb dX1_takePiece_88 rfl hl (by decide) rfl (fun ls hl => ?_)
    exact wX1_takePiece_89 X (fun hf hR hl => hk10 hf hR hl) (fun hf hR hl => hk114 hf hR hl) hf hR (lv_sub hl [1, 0, 2, 3] rfl)
set_option maxHeartbeats 4000000 in
set_option maxRecDepth 100000 in
theorem wX1_takePiece_51 {r : Int32} {M1 : Mem} {k10 : Int32 → Int32 → Mem → Option (Int32 × Mem)} {k114 : Int32 → Mem → Option (Int32 × Mem)} (X : CX E p s m args c meth cX1_takePiece 6 (some .int) RX1) (hk10 : ∀ {x3 : Int32} {x4 : Int32} {M : Mem} {H : Heap} {locs : List Loc} {ls : Array Slot}, k10 x3 x4 M = some (r, M1) → Rl E (sh_ true) (nn true) s.heap M H locs → lv_has ls 6 [(0, .ref (eB E + 141)), (3, .int x3), (4, .int x4)] → W p l e (rm 2 0 0) s m args below meth c H locs 0 0 (MQ below (qq E (some (.int r)) (sh_ true) (nn true) M1) args s 0 0 (fr E)) (F0 m 10 ls [])) (hk114 : ∀ {x3 : Int32} {M : Mem} {H : Heap} {locs : List Loc} {ls : Array Slot}, k114 x3 M = some (r, M1) → Rl E (sh_ true) (nn true) s.heap M H locs → lv_has ls 6 [(3, .int x3)] → W p l e (rm 2 0 0) s m args below meth c H locs 0 0 (MQ below (qq E (some (.int r)) (sh_ true) (nn true) M1) args s 0 0 (fr E)) (F0 m 114 ls [])) : ∀ {x3 : Int32} {x4 : Int32} {x5 : Int32} {M : Mem} {H : Heap} {locs : List Loc} {ls : Array Slot}, fX1_takePiece_51 k10 k114 x3 x4 x5 M = some (r, M1) → Rl E (sh_ true) (nn true) s.heap M H locs → lv_has ls 6 [(0, .ref (eB E + 141)), (3, .int x3), (4, .int x4), (5, .int x5)] → W p l e (rm 2 0 0) s m args below meth c H locs 0 0 (MQ below (qq E (some (.int r)) (sh_ true) (nn true) M1) args s 0 0 (fr E)) (F0 m 51 ls []) := by
  obtain ⟨hx, hb, hr, hml, hown, hts, hK, hN, hO, hlk, hbs⟩ := id X
  intro x3 x4 x5 M H locs ls hf hR hl
  unfold fX1_takePiece_51 at hf
  refine lv_iload hx hb dX1_takePiece_51 (lv_at hl 3 rfl) ?_
  refine lv_bipush (v := 100) hx hb dX1_takePiece_53 (by decide) ?_
  refine lv_irem hx hb dX1_takePiece_55 (by decide) ?_
  refine W.eq (g2 := F0 m 56 ls [.int (irm x5 (100 : Int32))]) rfl ?_
  refine lv_bipush (v := 99) hx hb dX1_takePiece_56 (by decide) ?_
  refine lv_icmp_ge (tgt := 71) hx hb dX1_takePiece_58 (by decide) (fun q58 => ?_) (fun q58 => ?_)
  · have hf := (br_if hf).1 q58
    exact wX1_takePiece_71 X (fun hf hR hl => hk10 hf hR hl) (fun hf hR hl => hk114 hf hR hl) hf hR hl
  · have hf := (br_if hf).2 q58
    refine lv_aload_n hx hb dX1_takePiece_61 rfl (lv_at hl 0 rfl) ?_
    refine lv_iload hx hb dX1_takePiece_62 (lv_at hl 3 rfl) ?_
    refine lv_iconst (v := 1) hx hb dX1_takePiece_64 (by decide) ?_
    refine lv_iadd hx hb dX1_takePiece_65 ?_
    refine lv_iload_n hx hb dX1_takePiece_66 rfl (lv_at hl 1 rfl) ?_
    obtain ⟨q67, c67, hf⟩ := br_b hf
    refine x_callV (k := 141) (As := [.int (x5 + (1 : Int32)), .int x3]) (rest := []) (st1 := [.int q67.1]) X hR (ctX1_takePoint c67) ml_X1_108 im_X1_takePoint se_X1_takePoint in_X1 co_X1_takePoint yo_X1_takePoint rfl kX1 z_141 (rm_ok (by decide) (by decide)) rfl hl.1 rfl rfl (Nat.le_of_ble_eq_true rfl) dX1_takePiece_67 ⟨Nat.zero_le _, Nat.zero_le _⟩ (fun H locs hR => ?_)
    refine lv_topi (fun v70 e70 => ?_)
    have hf := nx_at e70 hf
    refine lv_istore_n (lv' := [(3, .int v70), (0, .ref (eB E + 141)), (4, .int x4), (5, .int x5)]) hx hb dX1_takePiece_70 rfl hl (by decide) rfl (fun ls hl => ?_)
    exact wX1_takePiece_71 X (fun hf hR hl => hk10 hf hR hl) (fun hf hR hl => hk114 hf hR hl) hf hR (lv_sub hl [1, 0, 2, 3] rfl)
set_option maxHeartbeats 4000000 in
set_option maxRecDepth 100000 in
theorem wX1_takePiece_10 {r : Int32} {M1 : Mem} {k114 : Int32 → Mem → Option (Int32 × Mem)} (X : CX E p s m args c meth cX1_takePiece 6 (some .int) RX1) (hk114 : ∀ {x3 : Int32} {M : Mem} {H : Heap} {locs : List Loc} {ls : Array Slot}, k114 x3 M = some (r, M1) → Rl E (sh_ true) (nn true) s.heap M H locs → lv_has ls 6 [(3, .int x3)] → W p l e (rm 2 0 0) s m args below meth c H locs 0 0 (MQ below (qq E (some (.int r)) (sh_ true) (nn true) M1) args s 0 0 (fr E)) (F0 m 114 ls [])) : ∀ (n : Nat) {x3 : Int32} {x4 : Int32} {M : Mem} {H : Heap} {locs : List Loc} {ls : Array Slot}, fX1_takePiece_10 k114 n x3 x4 M = some (r, M1) → Rl E (sh_ true) (nn true) s.heap M H locs → lv_has ls 6 [(0, .ref (eB E + 141)), (3, .int x3), (4, .int x4)] → W p l e (rm 2 0 0) s m args below meth c H locs 0 0 (MQ below (qq E (some (.int r)) (sh_ true) (nn true) M1) args s 0 0 (fr E)) (F0 m 10 ls []) := by
  obtain ⟨hx, hb, hr, hml, hown, hts, hK, hN, hO, hlk, hbs⟩ := id X
  intro n
  induction n with
  | zero =>
    intro x3 x4 M H locs ls hf hR hl
    exact absurd (show none = some _ from hf) (fun h => by cases h)
  | succ n ih =>
    intro x3 x4 M H locs ls hf hR hl
    rw [fX1_takePiece_10] at hf
    refine lv_iload hx hb dX1_takePiece_10 (lv_at hl 2 rfl) ?_
    refine lv_iload_n hx hb dX1_takePiece_12 rfl (lv_at hl 1 rfl) ?_
    refine lv_icmp_ge (tgt := 114) hx hb dX1_takePiece_13 (by decide) (fun q13 => ?_) (fun q13 => ?_)
    · have hf := (br_if hf).1 q13
      exact hk114 hf hR (lv_sub hl [1] rfl)
    · have hf := (br_if hf).2 q13
      refine lv_iload hx hb dX1_takePiece_16 (lv_at hl 2 rfl) ?_
      refine lv_sipush (v := 10000) hx hb dX1_takePiece_18 (by decide) ?_
      refine lv_icmp_ge (tgt := 114) hx hb dX1_takePiece_21 (by decide) (fun q21 => ?_) (fun q21 => ?_)
      · have hf := (br_if hf).1 q21
        exact hk114 hf hR (lv_sub hl [1] rfl)
      · have hf := (br_if hf).2 q21
        refine lv_aload_n hx hb dX1_takePiece_24 rfl (lv_at hl 0 rfl) ?_
        refine x_get hx hb hown hts hK hR kX1 z_141 (j := 4) (by decide) fl_X1_22 (v := .ref (eB E + 145)) rfl dX1_takePiece_25 ?_
        refine lv_iload hx hb dX1_takePiece_28 (lv_at hl 2 rfl) ?_
        obtain ⟨g30, hf⟩ := br_g hf
        refine x_iald hx hb hK hR z_145 g30 dX1_takePiece_30 ?_
        refine lv_topi (fun v31 e31 => ?_)
        have hf := nx_at e31 hf
        refine lv_istore (lv' := [(5, .int v31), (0, .ref (eB E + 141)), (3, .int x3), (4, .int x4)]) hx hb dX1_takePiece_31 hl (by decide) rfl (fun ls hl => ?_)
        refine lv_iload hx hb dX1_takePiece_33 (lv_at hl 0 rfl) ?_
        refine lv_bipush (v := 100) hx hb dX1_takePiece_35 (by decide) ?_
        refine lv_irem hx hb dX1_takePiece_37 (by decide) ?_
        refine W.eq (g2 := F0 m 38 ls [.int (irm v31 (100 : Int32))]) rfl ?_
        refine lv_if_le (tgt := 51) hx hb dX1_takePiece_38 (by decide) (fun q38 => ?_) (fun q38 => ?_)
        · have hf := (br_if hf).1 q38
          exact wX1_takePiece_51 X (fun hf hR hl => ih hf hR hl) (fun hf hR hl => hk114 hf hR hl) hf hR (lv_sub hl [1, 2, 3, 0] rfl)
        · have hf := (br_if hf).2 q38
          refine lv_aload_n hx hb dX1_takePiece_41 rfl (lv_at hl 1 rfl) ?_
          refine lv_iload hx hb dX1_takePiece_42 (lv_at hl 0 rfl) ?_
          refine lv_iconst (v := 1) hx hb dX1_takePiece_44 (by decide) ?_
          refine lv_isub hx hb dX1_takePiece_45 ?_
          refine lv_iload_n hx hb dX1_takePiece_46 rfl (lv_at hl 2 rfl) ?_
          obtain ⟨q47, c47, hf⟩ := br_b hf
          refine x_callV (k := 141) (As := [.int (v31 - (1 : Int32)), .int x3]) (rest := []) (st1 := [.int q47.1]) X hR (ctX1_takePoint c47) ml_X1_108 im_X1_takePoint se_X1_takePoint in_X1 co_X1_takePoint yo_X1_takePoint rfl kX1 z_141 (rm_ok (by decide) (by decide)) rfl hl.1 rfl rfl (Nat.le_of_ble_eq_true rfl) dX1_takePiece_47 ⟨Nat.zero_le _, Nat.zero_le _⟩ (fun H locs hR => ?_)
          refine lv_topi (fun v50 e50 => ?_)
          have hf := nx_at e50 hf
          refine lv_istore_n (lv' := [(3, .int v50), (5, .int v31), (0, .ref (eB E + 141)), (4, .int x4)]) hx hb dX1_takePiece_50 rfl hl (by decide) rfl (fun ls hl => ?_)
          exact wX1_takePiece_51 X (fun hf hR hl => ih hf hR hl) (fun hf hR hl => hk114 hf hR hl) hf hR (lv_sub hl [2, 0, 3, 1] rfl)
set_option maxHeartbeats 4000000 in
set_option maxRecDepth 100000 in
theorem wX1_takePiece_114 {r : Int32} {M1 : Mem} (X : CX E p s m args c meth cX1_takePiece 6 (some .int) RX1) : ∀ {x3 : Int32} {M : Mem} {H : Heap} {locs : List Loc} {ls : Array Slot}, fX1_takePiece_114 x3 M = some (r, M1) → Rl E (sh_ true) (nn true) s.heap M H locs → lv_has ls 6 [(3, .int x3)] → W p l e (rm 2 0 0) s m args below meth c H locs 0 0 (MQ below (qq E (some (.int r)) (sh_ true) (nn true) M1) args s 0 0 (fr E)) (F0 m 114 ls []) := by
  obtain ⟨hx, hb, hr, hml, hown, hts, hK, hN, hO, hlk, hbs⟩ := id X
  intro x3 M H locs ls hf hR hl
  unfold fX1_takePiece_114 at hf
  refine lv_iload_n hx hb dX1_takePiece_114 rfl (lv_at hl 0 rfl) ?_
  cases hf
  exact x_iret hx hb hr hlk hR dX1_takePiece_115
set_option maxHeartbeats 4000000 in
set_option maxRecDepth 100000 in
theorem wX1_takePiece_0 {r : Int32} {M1 : Mem} (X : CX E p s m args c meth cX1_takePiece 6 (some .int) RX1) : ∀ {x1 : Int32} {x2 : Int32} {M : Mem} {H : Heap} {locs : List Loc} {ls : Array Slot}, fX1_takePiece x1 x2 M = some (r, M1) → Rl E (sh_ true) (nn true) s.heap M H locs → lv_has ls 6 [(0, .ref (eB E + 141)), (1, .int x1), (2, .int x2)] → W p l e (rm 2 0 0) s m args below meth c H locs 0 0 (MQ below (qq E (some (.int r)) (sh_ true) (nn true) M1) args s 0 0 (fr E)) (F0 m 0 ls []) := by
  obtain ⟨hx, hb, hr, hml, hown, hts, hK, hN, hO, hlk, hbs⟩ := id X
  intro x1 x2 M H locs ls hf hR hl
  unfold fX1_takePiece at hf
  refine lv_aload_n hx hb dX1_takePiece_0 rfl (lv_at hl 0 rfl) ?_
  refine lv_iload_n hx hb dX1_takePiece_1 rfl (lv_at hl 1 rfl) ?_
  refine lv_iload_n hx hb dX1_takePiece_2 rfl (lv_at hl 2 rfl) ?_
  obtain ⟨q3, c3, hf⟩ := br_b hf
  refine x_callV (k := 141) (As := [.int x1, .int x2]) (rest := []) (st1 := [.int q3.1]) X hR (ctX1_takePoint c3) ml_X1_108 im_X1_takePoint se_X1_takePoint in_X1 co_X1_takePoint yo_X1_takePoint rfl kX1 z_141 (rm_ok (by decide) (by decide)) rfl hl.1 rfl rfl (Nat.le_of_ble_eq_true rfl) dX1_takePiece_3 ⟨Nat.zero_le _, Nat.zero_le _⟩ (fun H locs hR => ?_)
  refine lv_topi (fun v6 e6 => ?_)
  have hf := nx_at e6 hf
  refine lv_istore_n (lv' := [(3, .int v6), (0, .ref (eB E + 141)), (1, .int x1), (2, .int x2)]) hx hb dX1_takePiece_6 rfl hl (by decide) rfl (fun ls hl => ?_)
  refine lv_iload_n hx hb dX1_takePiece_7 rfl (lv_at hl 3 rfl) ?_
  refine lv_istore (lv' := [(4, .int x2), (3, .int v6), (0, .ref (eB E + 141)), (1, .int x1), (2, .int x2)]) hx hb dX1_takePiece_8 hl (by decide) rfl (fun ls hl => ?_)
  exact wX1_takePiece_10 X (fun hf hR hl => wX1_takePiece_114 X hf hR hl) FU hf hR (lv_sub hl [2, 1, 0] rfl)
theorem ctX1_takePiece {l : Launch} {E : Ge} {M : Mem} {x1 : Int32} {x2 : Int32} {r : Int32} {M1 : Mem} (h : fX1_takePiece x1 x2 M = some (r, M1)) : CT l E yX1_takePiece cX1_takePiece 6 (some .int) 2 0 0 [.ref (eB E + 141), .int x1, .int x2] (some (.int r)) (sh_ true) (nn true) M (sh_ true) (nn true) M1 := by
  refine met_of (by decide) (Nat.le_of_ble_eq_true rfl) ?_
  intro p e s m args below meth c X _ hR ls hl
  exact wX1_takePiece_0 X h hR hl
def fX1_cutPieces_71 (k18 : Int32 → Int32 → Mem → Option Mem) (k77 : Int32 → Mem → Option Mem) (x1 : Int32) (x2 : Int32) (M : Mem) : Option Mem := nx (x2 + (1 : Int32)) (fun v71 => k18 x1 v71 M)
def fX1_cutPieces_18 (k77 : Int32 → Mem → Option Mem) : Nat → Int32 → Int32 → Mem → Option Mem
  | 0, _, _, _ => none
  | n + 1, x1, x2, M => (if (10000 : Int32) ≤ x2 then k77 x1 M else (if inb x2 10000 = true then (if (M.1 144 (ix x2)) = 0 then fX1_cutPieces_71 (fX1_cutPieces_18 k77 n) k77 x1 x2 M else (if (5000 : Int32) ≤ (M.1 141 8) then fX1_cutPieces_71 (fX1_cutPieces_18 k77 n) k77 x1 x2 M else (if inb (M.1 141 8) 5001 = true then nx (sI M 146 (ix (M.1 141 8)) x1) (fun M53 => (fX1_takePiece x2 x1 M53).bind (fun q57 => nx (q57.1) (fun v60 => nx (sI q57.2 141 8 ((q57.2.1 141 8) + (1 : Int32))) (fun M68 => fX1_cutPieces_71 (fX1_cutPieces_18 k77 n) k77 v60 x2 M68)))) else none))) else none))
def fX1_cutPieces_77 (x1 : Int32) (M : Mem) : Option Mem := (if inb (M.1 141 8) 5001 = true then nx (sI M 146 (ix (M.1 141 8)) x1) (fun M86 => some M86) else none)
def fX1_cutPieces (M : Mem) : Option Mem := (if (M.1 141 8) = (-1 : Int32) then nx (sI M 141 8 (0 : Int32)) (fun M11 => fX1_cutPieces_18 fX1_cutPieces_77 FU (0 : Int32) (0 : Int32) M11) else some M)
set_option maxHeartbeats 4000000 in
set_option maxRecDepth 100000 in
theorem wX1_cutPieces_71 {M1 : Mem} {k18 : Int32 → Int32 → Mem → Option Mem} {k77 : Int32 → Mem → Option Mem} (X : CX E p s m args c meth cX1_cutPieces 3 none RX1) (hk18 : ∀ {x1 : Int32} {x2 : Int32} {M : Mem} {H : Heap} {locs : List Loc} {ls : Array Slot}, k18 x1 x2 M = some M1 → Rl E (sh_ true) (nn true) s.heap M H locs → lv_has ls 3 [(0, .ref (eB E + 141)), (1, .int x1), (2, .int x2)] → W p l e (rm 3 0 0) s m args below meth c H locs 0 0 (MQ below (qq E none (sh_ true) (nn true) M1) args s 0 0 (fr E)) (F0 m 18 ls [])) (hk77 : ∀ {x1 : Int32} {M : Mem} {H : Heap} {locs : List Loc} {ls : Array Slot}, k77 x1 M = some M1 → Rl E (sh_ true) (nn true) s.heap M H locs → lv_has ls 3 [(0, .ref (eB E + 141)), (1, .int x1)] → W p l e (rm 3 0 0) s m args below meth c H locs 0 0 (MQ below (qq E none (sh_ true) (nn true) M1) args s 0 0 (fr E)) (F0 m 77 ls [])) : ∀ {x1 : Int32} {x2 : Int32} {M : Mem} {H : Heap} {locs : List Loc} {ls : Array Slot}, fX1_cutPieces_71 k18 k77 x1 x2 M = some M1 → Rl E (sh_ true) (nn true) s.heap M H locs → lv_has ls 3 [(0, .ref (eB E + 141)), (1, .int x1), (2, .int x2)] → W p l e (rm 3 0 0) s m args below meth c H locs 0 0 (MQ below (qq E none (sh_ true) (nn true) M1) args s 0 0 (fr E)) (F0 m 71 ls []) := by
  obtain ⟨hx, hb, hr, hml, hown, hts, hK, hN, hO, hlk, hbs⟩ := id X
  intro x1 x2 M H locs ls hf hR hl
  unfold fX1_cutPieces_71 at hf
  obtain ⟨v71, e71⟩ : ∃ y : Int32, y = (x2 + (1 : Int32)) := ⟨_, rfl⟩
  have hf := nx_at e71 hf
  refine lv_iinc (v := v71) (lv' := [(2, .int v71), (0, .ref (eB E + 141)), (1, .int x1)]) hx hb dX1_cutPieces_71 hl (k := 2) rfl (by rw [e71]; rfl) (by decide) rfl (fun ls hl => ?_)
  refine lv_goto (tgt := 18) hx hb dX1_cutPieces_74 (by decide) ?_
  exact hk18 hf hR (lv_sub hl [1, 2, 0] rfl)
set_option maxHeartbeats 4000000 in
set_option maxRecDepth 100000 in
theorem wX1_cutPieces_18 {M1 : Mem} {k77 : Int32 → Mem → Option Mem} (X : CX E p s m args c meth cX1_cutPieces 3 none RX1) (hk77 : ∀ {x1 : Int32} {M : Mem} {H : Heap} {locs : List Loc} {ls : Array Slot}, k77 x1 M = some M1 → Rl E (sh_ true) (nn true) s.heap M H locs → lv_has ls 3 [(0, .ref (eB E + 141)), (1, .int x1)] → W p l e (rm 3 0 0) s m args below meth c H locs 0 0 (MQ below (qq E none (sh_ true) (nn true) M1) args s 0 0 (fr E)) (F0 m 77 ls [])) : ∀ (n : Nat) {x1 : Int32} {x2 : Int32} {M : Mem} {H : Heap} {locs : List Loc} {ls : Array Slot}, fX1_cutPieces_18 k77 n x1 x2 M = some M1 → Rl E (sh_ true) (nn true) s.heap M H locs → lv_has ls 3 [(0, .ref (eB E + 141)), (1, .int x1), (2, .int x2)] → W p l e (rm 3 0 0) s m args below meth c H locs 0 0 (MQ below (qq E none (sh_ true) (nn true) M1) args s 0 0 (fr E)) (F0 m 18 ls []) := by
  obtain ⟨hx, hb, hr, hml, hown, hts, hK, hN, hO, hlk, hbs⟩ := id X
  intro n
  induction n with
  | zero =>
    intro x1 x2 M H locs ls hf hR hl
    exact absurd (show none = some _ from hf) (fun h => by cases h)
  | succ n ih =>
    intro x1 x2 M H locs ls hf hR hl
    rw [fX1_cutPieces_18] at hf
    refine lv_iload_n hx hb dX1_cutPieces_18 rfl (lv_at hl 2 rfl) ?_
    refine lv_sipush (v := 10000) hx hb dX1_cutPieces_19 (by decide) ?_
    refine lv_icmp_ge (tgt := 77) hx hb dX1_cutPieces_22 (by decide) (fun q22 => ?_) (fun q22 => ?_)
    · have hf := (br_if hf).1 q22
      exact hk77 hf hR (lv_sub hl [0, 1] rfl)
    · have hf := (br_if hf).2 q22
      refine lv_aload_n hx hb dX1_cutPieces_25 rfl (lv_at hl 0 rfl) ?_
      refine x_get hx hb hown hts hK hR kX1 z_141 (j := 3) (by decide) fl_X1_18 (v := .ref (eB E + 144)) rfl dX1_cutPieces_26 ?_
      refine lv_iload_n hx hb dX1_cutPieces_29 rfl (lv_at hl 2 rfl) ?_
      obtain ⟨g30, hf⟩ := br_g hf
      refine x_zald hx hb hK hR z_144 g30 dX1_cutPieces_30 ?_
      refine lv_if_eq (tgt := 71) hx hb dX1_cutPieces_31 (by decide) (fun q31 => ?_) (fun q31 => ?_)
      · have hf := (br_if hf).1 q31
        exact wX1_cutPieces_71 X (fun hf hR hl => ih hf hR hl) (fun hf hR hl => hk77 hf hR hl) hf hR hl
      · have hf := (br_if hf).2 q31
        refine lv_aload_n hx hb dX1_cutPieces_34 rfl (lv_at hl 0 rfl) ?_
        refine x_get hx hb hown hts hK hR kX1 z_141 (j := 8) (by decide) fl_X1_28 (v := .int (M.1 141 8)) rfl dX1_cutPieces_35 ?_
        refine lv_sipush (v := 5000) hx hb dX1_cutPieces_38 (by decide) ?_
        refine lv_icmp_ge (tgt := 71) hx hb dX1_cutPieces_41 (by decide) (fun q41 => ?_) (fun q41 => ?_)
        · have hf := (br_if hf).1 q41
          exact wX1_cutPieces_71 X (fun hf hR hl => ih hf hR hl) (fun hf hR hl => hk77 hf hR hl) hf hR hl
        · have hf := (br_if hf).2 q41
          refine lv_aload_n hx hb dX1_cutPieces_44 rfl (lv_at hl 0 rfl) ?_
          refine x_get hx hb hown hts hK hR kX1 z_141 (j := 5) (by decide) fl_X1_25 (v := .ref (eB E + 146)) rfl dX1_cutPieces_45 ?_
          refine lv_aload_n hx hb dX1_cutPieces_48 rfl (lv_at hl 0 rfl) ?_
          refine x_get hx hb hown hts hK hR kX1 z_141 (j := 8) (by decide) fl_X1_28 (v := .int (M.1 141 8)) rfl dX1_cutPieces_49 ?_
          refine lv_iload_n hx hb dX1_cutPieces_52 rfl (lv_at hl 1 rfl) ?_
          obtain ⟨g53, hf⟩ := br_g hf
          refine x_iast hx hb hK hR z_146 g53 dX1_cutPieces_53 (fun H locs hR => ?_)
          obtain ⟨M53, e53⟩ : ∃ y : Mem, y = (sI M 146 (ix (M.1 141 8)) x1) := ⟨_, rfl⟩
          have hf := nx_at e53 hf
          have hR : Rl E (sh_ true) (nn true) s.heap M53 H locs := by rw [e53]; exact hR
          refine lv_aload_n hx hb dX1_cutPieces_54 rfl (lv_at hl 0 rfl) ?_
          refine lv_iload_n hx hb dX1_cutPieces_55 rfl (lv_at hl 2 rfl) ?_
          refine lv_iload_n hx hb dX1_cutPieces_56 rfl (lv_at hl 1 rfl) ?_
          obtain ⟨q57, c57, hf⟩ := br_b hf
          refine x_callV (k := 141) (As := [.int x2, .int x1]) (rest := []) (st1 := [.int q57.1]) X hR (ctX1_takePiece c57) ml_X1_105 im_X1_takePiece se_X1_takePiece in_X1 co_X1_takePiece yo_X1_takePiece rfl kX1 z_141 (rm_ok (by decide) (by decide)) rfl hl.1 rfl rfl (Nat.le_of_ble_eq_true rfl) dX1_cutPieces_57 ⟨Nat.zero_le _, Nat.zero_le _⟩ (fun H locs hR => ?_)
          refine lv_topi (fun v60 e60 => ?_)
          have hf := nx_at e60 hf
          refine lv_istore_n (lv' := [(1, .int v60), (0, .ref (eB E + 141)), (2, .int x2)]) hx hb dX1_cutPieces_60 rfl hl (by decide) rfl (fun ls hl => ?_)
          refine lv_aload_n hx hb dX1_cutPieces_61 rfl (lv_at hl 1 rfl) ?_
          refine lv_dup hx hb dX1_cutPieces_62 rfl ?_
          refine x_get hx hb hown hts hK hR kX1 z_141 (j := 8) (by decide) fl_X1_28 (v := .int (q57.2.1 141 8)) rfl dX1_cutPieces_63 ?_
          refine lv_iconst (v := 1) hx hb dX1_cutPieces_66 (by decide) ?_
          refine lv_iadd hx hb dX1_cutPieces_67 ?_
          refine x_puti hx hb hown hts hK hR kX1 z_141 (j := 8) (by decide) fl_X1_28 rfl rfl rfl rfl dX1_cutPieces_68 (fun H locs hR => ?_)
          obtain ⟨M68, e68⟩ : ∃ y : Mem, y = (sI q57.2 141 8 ((q57.2.1 141 8) + (1 : Int32))) := ⟨_, rfl⟩
          have hf := nx_at e68 hf
          have hR : Rl E (sh_ true) (nn true) s.heap M68 H locs := by rw [e68]; exact hR
          exact wX1_cutPieces_71 X (fun hf hR hl => ih hf hR hl) (fun hf hR hl => hk77 hf hR hl) hf hR (lv_sub hl [1, 0, 2] rfl)
set_option maxHeartbeats 4000000 in
set_option maxRecDepth 100000 in
theorem wX1_cutPieces_77 {M1 : Mem} (X : CX E p s m args c meth cX1_cutPieces 3 none RX1) : ∀ {x1 : Int32} {M : Mem} {H : Heap} {locs : List Loc} {ls : Array Slot}, fX1_cutPieces_77 x1 M = some M1 → Rl E (sh_ true) (nn true) s.heap M H locs → lv_has ls 3 [(0, .ref (eB E + 141)), (1, .int x1)] → W p l e (rm 3 0 0) s m args below meth c H locs 0 0 (MQ below (qq E none (sh_ true) (nn true) M1) args s 0 0 (fr E)) (F0 m 77 ls []) := by
  obtain ⟨hx, hb, hr, hml, hown, hts, hK, hN, hO, hlk, hbs⟩ := id X
  intro x1 M H locs ls hf hR hl
  unfold fX1_cutPieces_77 at hf
  refine lv_aload_n hx hb dX1_cutPieces_77 rfl (lv_at hl 0 rfl) ?_
  refine x_get hx hb hown hts hK hR kX1 z_141 (j := 5) (by decide) fl_X1_25 (v := .ref (eB E + 146)) rfl dX1_cutPieces_78 ?_
  refine lv_aload_n hx hb dX1_cutPieces_81 rfl (lv_at hl 0 rfl) ?_
  refine x_get hx hb hown hts hK hR kX1 z_141 (j := 8) (by decide) fl_X1_28 (v := .int (M.1 141 8)) rfl dX1_cutPieces_82 ?_
  refine lv_iload_n hx hb dX1_cutPieces_85 rfl (lv_at hl 1 rfl) ?_
  obtain ⟨g86, hf⟩ := br_g hf
  refine x_iast hx hb hK hR z_146 g86 dX1_cutPieces_86 (fun H locs hR => ?_)
  obtain ⟨M86, e86⟩ : ∃ y : Mem, y = (sI M 146 (ix (M.1 141 8)) x1) := ⟨_, rfl⟩
  have hf := nx_at e86 hf
  have hR : Rl E (sh_ true) (nn true) s.heap M86 H locs := by rw [e86]; exact hR
  cases hf
  exact x_vret hx hb hr hlk hR dX1_cutPieces_87
set_option maxHeartbeats 4000000 in
set_option maxRecDepth 100000 in
theorem wX1_cutPieces_0 {M1 : Mem} (X : CX E p s m args c meth cX1_cutPieces 3 none RX1) : ∀ {M : Mem} {H : Heap} {locs : List Loc} {ls : Array Slot}, fX1_cutPieces M = some M1 → Rl E (sh_ true) (nn true) s.heap M H locs → lv_has ls 3 [(0, .ref (eB E + 141))] → W p l e (rm 3 0 0) s m args below meth c H locs 0 0 (MQ below (qq E none (sh_ true) (nn true) M1) args s 0 0 (fr E)) (F0 m 0 ls []) := by
  obtain ⟨hx, hb, hr, hml, hown, hts, hK, hN, hO, hlk, hbs⟩ := id X
  intro M H locs ls hf hR hl
  unfold fX1_cutPieces at hf
  refine lv_aload_n hx hb dX1_cutPieces_0 rfl (lv_at hl 0 rfl) ?_
  refine x_get hx hb hown hts hK hR kX1 z_141 (j := 8) (by decide) fl_X1_28 (v := .int (M.1 141 8)) rfl dX1_cutPieces_1 ?_
  refine lv_iconst (v := -1) hx hb dX1_cutPieces_4 (by decide) ?_
  refine lv_icmp_eq (tgt := 9) hx hb dX1_cutPieces_5 (by decide) (fun q5 => ?_) (fun q5 => ?_)
  · have hf := (br_if hf).1 q5
    refine lv_aload_n hx hb dX1_cutPieces_9 rfl (lv_at hl 0 rfl) ?_
    refine lv_iconst (v := 0) hx hb dX1_cutPieces_10 (by decide) ?_
    refine x_puti hx hb hown hts hK hR kX1 z_141 (j := 8) (by decide) fl_X1_28 rfl rfl rfl rfl dX1_cutPieces_11 (fun H locs hR => ?_)
    obtain ⟨M11, e11⟩ : ∃ y : Mem, y = (sI M 141 8 (0 : Int32)) := ⟨_, rfl⟩
    have hf := nx_at e11 hf
    have hR : Rl E (sh_ true) (nn true) s.heap M11 H locs := by rw [e11]; exact hR
    refine lv_iconst (v := 0) hx hb dX1_cutPieces_14 (by decide) ?_
    refine lv_istore_n (lv' := [(1, .int (0 : Int32)), (0, .ref (eB E + 141))]) hx hb dX1_cutPieces_15 rfl hl (by decide) rfl (fun ls hl => ?_)
    refine lv_iconst (v := 0) hx hb dX1_cutPieces_16 (by decide) ?_
    refine lv_istore_n (lv' := [(2, .int (0 : Int32)), (1, .int (0 : Int32)), (0, .ref (eB E + 141))]) hx hb dX1_cutPieces_17 rfl hl (by decide) rfl (fun ls hl => ?_)
    exact wX1_cutPieces_18 X (fun hf hR hl => wX1_cutPieces_77 X hf hR hl) FU hf hR (lv_sub hl [2, 1, 0] rfl)
  · have hf := (br_if hf).2 q5
    cases hf
    exact x_vret hx hb hr hlk hR dX1_cutPieces_8
theorem ctX1_cutPieces {l : Launch} {E : Ge} {M : Mem} {M1 : Mem} (h : fX1_cutPieces M = some M1) : CT l E yX1_cutPieces cX1_cutPieces 3 none 3 0 0 [.ref (eB E + 141)] none (sh_ true) (nn true) M (sh_ true) (nn true) M1 := by
  refine met_of (by decide) (Nat.le_of_ble_eq_true rfl) ?_
  intro p e s m args below meth c X _ hR ls hl
  exact wX1_cutPieces_0 X h hR hl
def fX1_firstOf (M : Mem) (x1 : Int32) : Option Int32 := (if inb x1 5001 = true then (if inb (M.1 146 (ix x1)) 10000 = true then some (M.1 145 (ix (M.1 146 (ix x1)))) else none) else none)
set_option maxHeartbeats 4000000 in
set_option maxRecDepth 100000 in
theorem wX1_firstOf_0 {r : Int32} {M : Mem} (X : CX E p s m args c meth cX1_firstOf 2 (some .int) RX1) : ∀ {x1 : Int32} {H : Heap} {locs : List Loc} {ls : Array Slot}, fX1_firstOf M x1 = some r → Rl E (sh_ true) (nn true) s.heap M H locs → lv_has ls 2 [(0, .ref (eB E + 141)), (1, .int x1)] → W p l e (rm 1 0 0) s m args below meth c H locs 0 0 (MQ below (qq E (some (.int r)) (sh_ true) (nn true) M) args s 0 0 (fr E)) (F0 m 0 ls []) := by
  obtain ⟨hx, hb, hr, hml, hown, hts, hK, hN, hO, hlk, hbs⟩ := id X
  intro x1 H locs ls hf hR hl
  unfold fX1_firstOf at hf
  refine lv_aload_n hx hb dX1_firstOf_0 rfl (lv_at hl 0 rfl) ?_
  refine x_get hx hb hown hts hK hR kX1 z_141 (j := 4) (by decide) fl_X1_22 (v := .ref (eB E + 145)) rfl dX1_firstOf_1 ?_
  refine lv_aload_n hx hb dX1_firstOf_4 rfl (lv_at hl 0 rfl) ?_
  refine x_get hx hb hown hts hK hR kX1 z_141 (j := 5) (by decide) fl_X1_25 (v := .ref (eB E + 146)) rfl dX1_firstOf_5 ?_
  refine lv_iload_n hx hb dX1_firstOf_8 rfl (lv_at hl 1 rfl) ?_
  obtain ⟨g9, hf⟩ := br_g hf
  refine x_iald hx hb hK hR z_146 g9 dX1_firstOf_9 ?_
  obtain ⟨g10, hf⟩ := br_g hf
  refine x_iald hx hb hK hR z_145 g10 dX1_firstOf_10 ?_
  cases hf
  exact x_iret hx hb hr hlk hR dX1_firstOf_11
theorem ctX1_firstOf {l : Launch} {E : Ge} {M : Mem} {x1 : Int32} {r : Int32} (h : fX1_firstOf M x1 = some r) : CT l E yX1_firstOf cX1_firstOf 2 (some .int) 1 0 0 [.ref (eB E + 141), .int x1] (some (.int r)) (sh_ true) (nn true) M (sh_ true) (nn true) M := by
  refine met_of (by decide) (Nat.le_of_ble_eq_true rfl) ?_
  intro p e s m args below meth c X _ hR ls hl
  exact wX1_firstOf_0 X h hR hl
def fX1_sizeOf (M : Mem) (x1 : Int32) : Option Int32 := (if inb (x1 + (1 : Int32)) 5001 = true then (if inb x1 5001 = true then some ((M.1 146 (ix (x1 + (1 : Int32)))) - (M.1 146 (ix x1))) else none) else none)
set_option maxHeartbeats 4000000 in
set_option maxRecDepth 100000 in
theorem wX1_sizeOf_0 {r : Int32} {M : Mem} (X : CX E p s m args c meth cX1_sizeOf 2 (some .int) RX1) : ∀ {x1 : Int32} {H : Heap} {locs : List Loc} {ls : Array Slot}, fX1_sizeOf M x1 = some r → Rl E (sh_ true) (nn true) s.heap M H locs → lv_has ls 2 [(0, .ref (eB E + 141)), (1, .int x1)] → W p l e (rm 1 0 0) s m args below meth c H locs 0 0 (MQ below (qq E (some (.int r)) (sh_ true) (nn true) M) args s 0 0 (fr E)) (F0 m 0 ls []) := by
  obtain ⟨hx, hb, hr, hml, hown, hts, hK, hN, hO, hlk, hbs⟩ := id X
  intro x1 H locs ls hf hR hl
  unfold fX1_sizeOf at hf
  refine lv_aload_n hx hb dX1_sizeOf_0 rfl (lv_at hl 0 rfl) ?_
  refine x_get hx hb hown hts hK hR kX1 z_141 (j := 5) (by decide) fl_X1_25 (v := .ref (eB E + 146)) rfl dX1_sizeOf_1 ?_
  refine lv_iload_n hx hb dX1_sizeOf_4 rfl (lv_at hl 1 rfl) ?_
  refine lv_iconst (v := 1) hx hb dX1_sizeOf_5 (by decide) ?_
  refine lv_iadd hx hb dX1_sizeOf_6 ?_
  obtain ⟨g7, hf⟩ := br_g hf
  refine x_iald hx hb hK hR z_146 g7 dX1_sizeOf_7 ?_
  refine lv_aload_n hx hb dX1_sizeOf_8 rfl (lv_at hl 0 rfl) ?_
  refine x_get hx hb hown hts hK hR kX1 z_141 (j := 5) (by decide) fl_X1_25 (v := .ref (eB E + 146)) rfl dX1_sizeOf_9 ?_
  refine lv_iload_n hx hb dX1_sizeOf_12 rfl (lv_at hl 1 rfl) ?_
  obtain ⟨g13, hf⟩ := br_g hf
  refine x_iald hx hb hK hR z_146 g13 dX1_sizeOf_13 ?_
  refine lv_isub hx hb dX1_sizeOf_14 ?_
  cases hf
  exact x_iret hx hb hr hlk hR dX1_sizeOf_15
theorem ctX1_sizeOf {l : Launch} {E : Ge} {M : Mem} {x1 : Int32} {r : Int32} (h : fX1_sizeOf M x1 = some r) : CT l E yX1_sizeOf cX1_sizeOf 2 (some .int) 1 0 0 [.ref (eB E + 141), .int x1] (some (.int r)) (sh_ true) (nn true) M (sh_ true) (nn true) M := by
  refine met_of (by decide) (Nat.le_of_ble_eq_true rfl) ?_
  intro p e s m args below meth c X _ hR ls hl
  exact wX1_sizeOf_0 X h hR hl
def fX1_refillWinning_2 (k35 : Mem → Option Mem) : Nat → Int32 → Mem → Option Mem
  | 0, _, _ => none
  | n + 1, x1, M => (if (M.1 141 6) ≤ x1 then k35 M else (if (10000 : Int32) ≤ x1 then k35 M else (if inb x1 10000 = true then (if inb (M.1 145 (ix x1)) 10000 = true then nx (sI M 144 (ix (M.1 145 (ix x1))) ((1 : Int32) &&& 1)) (fun M28 => nx (x1 + (1 : Int32)) (fun v29 => fX1_refillWinning_2 k35 n v29 M28)) else none) else none)))
def fX1_refillWinning_35 (M : Mem) : Option Mem := some M
def fX1_refillWinning (M : Mem) : Option Mem := fX1_refillWinning_2 fX1_refillWinning_35 FU (0 : Int32) M
set_option maxHeartbeats 4000000 in
set_option maxRecDepth 100000 in
theorem wX1_refillWinning_2 {M1 : Mem} {k35 : Mem → Option Mem} (X : CX E p s m args c meth cX1_refillWinning 2 none RX1) (hk35 : ∀ {M : Mem} {H : Heap} {locs : List Loc} {ls : Array Slot}, k35 M = some M1 → Rl E (sh_ true) (nn true) s.heap M H locs → lv_has ls 2 [] → W p l e (rm 1 0 0) s m args below meth c H locs 0 0 (MQ below (qq E none (sh_ true) (nn true) M1) args s 0 0 (fr E)) (F0 m 35 ls [])) : ∀ (n : Nat) {x1 : Int32} {M : Mem} {H : Heap} {locs : List Loc} {ls : Array Slot}, fX1_refillWinning_2 k35 n x1 M = some M1 → Rl E (sh_ true) (nn true) s.heap M H locs → lv_has ls 2 [(0, .ref (eB E + 141)), (1, .int x1)] → W p l e (rm 1 0 0) s m args below meth c H locs 0 0 (MQ below (qq E none (sh_ true) (nn true) M1) args s 0 0 (fr E)) (F0 m 2 ls []) := by
  obtain ⟨hx, hb, hr, hml, hown, hts, hK, hN, hO, hlk, hbs⟩ := id X
  intro n
  induction n with
  | zero =>
    intro x1 M H locs ls hf hR hl
    exact absurd (show none = some _ from hf) (fun h => by cases h)
  | succ n ih =>
    intro x1 M H locs ls hf hR hl
    rw [fX1_refillWinning_2] at hf
    refine lv_iload_n hx hb dX1_refillWinning_2 rfl (lv_at hl 1 rfl) ?_
    refine lv_aload_n hx hb dX1_refillWinning_3 rfl (lv_at hl 0 rfl) ?_
    refine x_get hx hb hown hts hK hR kX1 z_141 (j := 6) (by decide) fl_X1_49 (v := .int (M.1 141 6)) rfl dX1_refillWinning_4 ?_
    refine lv_icmp_ge (tgt := 35) hx hb dX1_refillWinning_7 (by decide) (fun q7 => ?_) (fun q7 => ?_)
    · have hf := (br_if hf).1 q7
      exact hk35 hf hR (lv_sub hl [] rfl)
    · have hf := (br_if hf).2 q7
      refine lv_iload_n hx hb dX1_refillWinning_10 rfl (lv_at hl 1 rfl) ?_
      refine lv_sipush (v := 10000) hx hb dX1_refillWinning_11 (by decide) ?_
      refine lv_icmp_ge (tgt := 35) hx hb dX1_refillWinning_14 (by decide) (fun q14 => ?_) (fun q14 => ?_)
      · have hf := (br_if hf).1 q14
        exact hk35 hf hR (lv_sub hl [] rfl)
      · have hf := (br_if hf).2 q14
        refine lv_aload_n hx hb dX1_refillWinning_17 rfl (lv_at hl 0 rfl) ?_
        refine x_get hx hb hown hts hK hR kX1 z_141 (j := 3) (by decide) fl_X1_18 (v := .ref (eB E + 144)) rfl dX1_refillWinning_18 ?_
        refine lv_aload_n hx hb dX1_refillWinning_21 rfl (lv_at hl 0 rfl) ?_
        refine x_get hx hb hown hts hK hR kX1 z_141 (j := 4) (by decide) fl_X1_22 (v := .ref (eB E + 145)) rfl dX1_refillWinning_22 ?_
        refine lv_iload_n hx hb dX1_refillWinning_25 rfl (lv_at hl 1 rfl) ?_
        obtain ⟨g26, hf⟩ := br_g hf
        refine x_iald hx hb hK hR z_145 g26 dX1_refillWinning_26 ?_
        refine lv_iconst (v := 1) hx hb dX1_refillWinning_27 (by decide) ?_
        obtain ⟨g28, hf⟩ := br_g hf
        refine x_zast hx hb hK hR z_144 g28 dX1_refillWinning_28 (fun H locs hR => ?_)
        obtain ⟨M28, e28⟩ : ∃ y : Mem, y = (sI M 144 (ix (M.1 145 (ix x1))) ((1 : Int32) &&& 1)) := ⟨_, rfl⟩
        have hf := nx_at e28 hf
        have hR : Rl E (sh_ true) (nn true) s.heap M28 H locs := by rw [e28]; exact hR
        obtain ⟨v29, e29⟩ : ∃ y : Int32, y = (x1 + (1 : Int32)) := ⟨_, rfl⟩
        have hf := nx_at e29 hf
        refine lv_iinc (v := v29) (lv' := [(1, .int v29), (0, .ref (eB E + 141))]) hx hb dX1_refillWinning_29 hl (k := 1) rfl (by rw [e29]; rfl) (by decide) rfl (fun ls hl => ?_)
        refine lv_goto (tgt := 2) hx hb dX1_refillWinning_32 (by decide) ?_
        exact ih hf hR (lv_sub hl [1, 0] rfl)
set_option maxHeartbeats 4000000 in
set_option maxRecDepth 100000 in
theorem wX1_refillWinning_35 {M1 : Mem} (X : CX E p s m args c meth cX1_refillWinning 2 none RX1) : ∀ {M : Mem} {H : Heap} {locs : List Loc} {ls : Array Slot}, fX1_refillWinning_35 M = some M1 → Rl E (sh_ true) (nn true) s.heap M H locs → lv_has ls 2 [] → W p l e (rm 1 0 0) s m args below meth c H locs 0 0 (MQ below (qq E none (sh_ true) (nn true) M1) args s 0 0 (fr E)) (F0 m 35 ls []) := by
  obtain ⟨hx, hb, hr, hml, hown, hts, hK, hN, hO, hlk, hbs⟩ := id X
  intro M H locs ls hf hR hl
  unfold fX1_refillWinning_35 at hf
  cases hf
  exact x_vret hx hb hr hlk hR dX1_refillWinning_35
set_option maxHeartbeats 4000000 in
set_option maxRecDepth 100000 in
theorem wX1_refillWinning_0 {M1 : Mem} (X : CX E p s m args c meth cX1_refillWinning 2 none RX1) : ∀ {M : Mem} {H : Heap} {locs : List Loc} {ls : Array Slot}, fX1_refillWinning M = some M1 → Rl E (sh_ true) (nn true) s.heap M H locs → lv_has ls 2 [(0, .ref (eB E + 141))] → W p l e (rm 1 0 0) s m args below meth c H locs 0 0 (MQ below (qq E none (sh_ true) (nn true) M1) args s 0 0 (fr E)) (F0 m 0 ls []) := by
  obtain ⟨hx, hb, hr, hml, hown, hts, hK, hN, hO, hlk, hbs⟩ := id X
  intro M H locs ls hf hR hl
  unfold fX1_refillWinning at hf
  refine lv_iconst (v := 0) hx hb dX1_refillWinning_0 (by decide) ?_
  refine lv_istore_n (lv' := [(1, .int (0 : Int32)), (0, .ref (eB E + 141))]) hx hb dX1_refillWinning_1 rfl hl (by decide) rfl (fun ls hl => ?_)
  exact wX1_refillWinning_2 X (fun hf hR hl => wX1_refillWinning_35 X hf hR hl) FU hf hR (lv_sub hl [1, 0] rfl)
theorem ctX1_refillWinning {l : Launch} {E : Ge} {M : Mem} {M1 : Mem} (h : fX1_refillWinning M = some M1) : CT l E yX1_refillWinning cX1_refillWinning 2 none 1 0 0 [.ref (eB E + 141)] none (sh_ true) (nn true) M (sh_ true) (nn true) M1 := by
  refine met_of (by decide) (Nat.le_of_ble_eq_true rfl) ?_
  intro p e s m args below meth c X _ hR ls hl
  exact wX1_refillWinning_0 X h hR hl
def fX1_firstBeatenBy_68 (k20 : Int32 → Mem → Option (Int32 × Mem)) (k66 : Int32 → Mem → Option (Int32 × Mem)) (k74 : Mem → Option (Int32 × Mem)) (x3 : Int32) (M : Mem) : Option (Int32 × Mem) := nx (x3 + (1 : Int32)) (fun v68 => k20 v68 M)
def fX1_firstBeatenBy_20 (k66 : Int32 → Mem → Option (Int32 × Mem)) (k74 : Mem → Option (Int32 × Mem)) : Nat → Int32 → Mem → Option (Int32 × Mem)
  | 0, _, _ => none
  | n + 1, x3, M => (if (10000 : Int32) ≤ x3 then k74 M else (if inb x3 10000 = true then (if (M.1 144 (ix x3)) = 0 then fX1_firstBeatenBy_68 (fX1_firstBeatenBy_20 k66 k74 n) k66 k74 x3 M else (if inb x3 10000 = true then (if inb x3 10000 = true then (fX8_isEnough_t M ((M.1 1 7) - (M.1 143 (ix x3))) (M.1 142 (ix x3))).bind (fun q60 => (if q60 = 0 then fX1_firstBeatenBy_68 (fX1_firstBeatenBy_20 k66 k74 n) k66 k74 x3 M else k66 x3 M)) else none) else none)) else none))
def fX1_firstBeatenBy_66 (x3 : Int32) (M : Mem) : Option (Int32 × Mem) := some (x3, M)
def fX1_firstBeatenBy_74 (M : Mem) : Option (Int32 × Mem) := some ((-1 : Int32), M)
def fX1_firstBeatenBy_12 (x1 : Int32) (x2 : Int32) (M : Mem) : Option (Int32 × Mem) := (fX1_weigh x1 x2 M).bind (fun q15 => fX1_firstBeatenBy_20 fX1_firstBeatenBy_66 fX1_firstBeatenBy_74 FU (0 : Int32) q15)
def fX1_firstBeatenBy (x1 : Int32) (x2 : Int32) (M : Mem) : Option (Int32 × Mem) := (if (M.1 141 8) = (-1 : Int32) then fX1_firstBeatenBy_12 x1 x2 M else (fX1_refillWinning M).bind (fun q9 => fX1_firstBeatenBy_12 x1 x2 q9))
set_option maxHeartbeats 4000000 in
set_option maxRecDepth 100000 in
theorem wX1_firstBeatenBy_68 {r : Int32} {M1 : Mem} {k20 : Int32 → Mem → Option (Int32 × Mem)} {k66 : Int32 → Mem → Option (Int32 × Mem)} {k74 : Mem → Option (Int32 × Mem)} (X : CX E p s m args c meth cX1_firstBeatenBy 4 (some .int) RX1) (hk20 : ∀ {x3 : Int32} {M : Mem} {H : Heap} {locs : List Loc} {ls : Array Slot}, k20 x3 M = some (r, M1) → Rl E (sh_ true) (nn true) s.heap M H locs → lv_has ls 4 [(0, .ref (eB E + 141)), (3, .int x3)] → W p l e (rm 5 0 0) s m args below meth c H locs 0 0 (MQ below (qq E (some (.int r)) (sh_ true) (nn true) M1) args s 0 0 (fr E)) (F0 m 20 ls [])) (hk66 : ∀ {x3 : Int32} {M : Mem} {H : Heap} {locs : List Loc} {ls : Array Slot}, k66 x3 M = some (r, M1) → Rl E (sh_ true) (nn true) s.heap M H locs → lv_has ls 4 [(3, .int x3)] → W p l e (rm 5 0 0) s m args below meth c H locs 0 0 (MQ below (qq E (some (.int r)) (sh_ true) (nn true) M1) args s 0 0 (fr E)) (F0 m 66 ls [])) (hk74 : ∀ {M : Mem} {H : Heap} {locs : List Loc} {ls : Array Slot}, k74 M = some (r, M1) → Rl E (sh_ true) (nn true) s.heap M H locs → lv_has ls 4 [] → W p l e (rm 5 0 0) s m args below meth c H locs 0 0 (MQ below (qq E (some (.int r)) (sh_ true) (nn true) M1) args s 0 0 (fr E)) (F0 m 74 ls [])) : ∀ {x3 : Int32} {M : Mem} {H : Heap} {locs : List Loc} {ls : Array Slot}, fX1_firstBeatenBy_68 k20 k66 k74 x3 M = some (r, M1) → Rl E (sh_ true) (nn true) s.heap M H locs → lv_has ls 4 [(0, .ref (eB E + 141)), (3, .int x3)] → W p l e (rm 5 0 0) s m args below meth c H locs 0 0 (MQ below (qq E (some (.int r)) (sh_ true) (nn true) M1) args s 0 0 (fr E)) (F0 m 68 ls []) := by
  obtain ⟨hx, hb, hr, hml, hown, hts, hK, hN, hO, hlk, hbs⟩ := id X
  intro x3 M H locs ls hf hR hl
  unfold fX1_firstBeatenBy_68 at hf
  obtain ⟨v68, e68⟩ : ∃ y : Int32, y = (x3 + (1 : Int32)) := ⟨_, rfl⟩
  have hf := nx_at e68 hf
  refine lv_iinc (v := v68) (lv' := [(3, .int v68), (0, .ref (eB E + 141))]) hx hb dX1_firstBeatenBy_68 hl (k := 1) rfl (by rw [e68]; rfl) (by decide) rfl (fun ls hl => ?_)
  refine lv_goto (tgt := 20) hx hb dX1_firstBeatenBy_71 (by decide) ?_
  exact hk20 hf hR (lv_sub hl [1, 0] rfl)
set_option maxHeartbeats 4000000 in
set_option maxRecDepth 100000 in
theorem wX1_firstBeatenBy_20 {r : Int32} {M1 : Mem} {k66 : Int32 → Mem → Option (Int32 × Mem)} {k74 : Mem → Option (Int32 × Mem)} (X : CX E p s m args c meth cX1_firstBeatenBy 4 (some .int) RX1) (hk66 : ∀ {x3 : Int32} {M : Mem} {H : Heap} {locs : List Loc} {ls : Array Slot}, k66 x3 M = some (r, M1) → Rl E (sh_ true) (nn true) s.heap M H locs → lv_has ls 4 [(3, .int x3)] → W p l e (rm 5 0 0) s m args below meth c H locs 0 0 (MQ below (qq E (some (.int r)) (sh_ true) (nn true) M1) args s 0 0 (fr E)) (F0 m 66 ls [])) (hk74 : ∀ {M : Mem} {H : Heap} {locs : List Loc} {ls : Array Slot}, k74 M = some (r, M1) → Rl E (sh_ true) (nn true) s.heap M H locs → lv_has ls 4 [] → W p l e (rm 5 0 0) s m args below meth c H locs 0 0 (MQ below (qq E (some (.int r)) (sh_ true) (nn true) M1) args s 0 0 (fr E)) (F0 m 74 ls [])) : ∀ (n : Nat) {x3 : Int32} {M : Mem} {H : Heap} {locs : List Loc} {ls : Array Slot}, fX1_firstBeatenBy_20 k66 k74 n x3 M = some (r, M1) → Rl E (sh_ true) (nn true) s.heap M H locs → lv_has ls 4 [(0, .ref (eB E + 141)), (3, .int x3)] → W p l e (rm 5 0 0) s m args below meth c H locs 0 0 (MQ below (qq E (some (.int r)) (sh_ true) (nn true) M1) args s 0 0 (fr E)) (F0 m 20 ls []) := by
  obtain ⟨hx, hb, hr, hml, hown, hts, hK, hN, hO, hlk, hbs⟩ := id X
  intro n
  induction n with
  | zero =>
    intro x3 M H locs ls hf hR hl
    exact absurd (show none = some _ from hf) (fun h => by cases h)
  | succ n ih =>
    intro x3 M H locs ls hf hR hl
    rw [fX1_firstBeatenBy_20] at hf
    refine lv_iload_n hx hb dX1_firstBeatenBy_20 rfl (lv_at hl 1 rfl) ?_
    refine lv_sipush (v := 10000) hx hb dX1_firstBeatenBy_21 (by decide) ?_
    refine lv_icmp_ge (tgt := 74) hx hb dX1_firstBeatenBy_24 (by decide) (fun q24 => ?_) (fun q24 => ?_)
    · have hf := (br_if hf).1 q24
      exact hk74 hf hR (lv_sub hl [] rfl)
    · have hf := (br_if hf).2 q24
      refine lv_aload_n hx hb dX1_firstBeatenBy_27 rfl (lv_at hl 0 rfl) ?_
      refine x_get hx hb hown hts hK hR kX1 z_141 (j := 3) (by decide) fl_X1_18 (v := .ref (eB E + 144)) rfl dX1_firstBeatenBy_28 ?_
      refine lv_iload_n hx hb dX1_firstBeatenBy_31 rfl (lv_at hl 1 rfl) ?_
      obtain ⟨g32, hf⟩ := br_g hf
      refine x_zald hx hb hK hR z_144 g32 dX1_firstBeatenBy_32 ?_
      refine lv_if_eq (tgt := 68) hx hb dX1_firstBeatenBy_33 (by decide) (fun q33 => ?_) (fun q33 => ?_)
      · have hf := (br_if hf).1 q33
        exact wX1_firstBeatenBy_68 X (fun hf hR hl => ih hf hR hl) (fun hf hR hl => hk66 hf hR hl) (fun hf hR hl => hk74 hf hR hl) hf hR hl
      · have hf := (br_if hf).2 q33
        refine lv_aload_n hx hb dX1_firstBeatenBy_36 rfl (lv_at hl 0 rfl) ?_
        refine x_get hx hb hown hts hK hR kX1 z_141 (j := 0) (by decide) fl_X1_38 (v := .ref (eB E + 1)) rfl dX1_firstBeatenBy_37 ?_
        refine lv_aload_n hx hb dX1_firstBeatenBy_40 rfl (lv_at hl 0 rfl) ?_
        refine x_get hx hb hown hts hK hR kX1 z_141 (j := 0) (by decide) fl_X1_38 (v := .ref (eB E + 1)) rfl dX1_firstBeatenBy_41 ?_
        refine x_get hx hb hown hts hK hR kX8 (z_1 true) (j := 7) (by decide) fl_X1_55 (v := .int (M.1 1 7)) rfl dX1_firstBeatenBy_44 ?_
        refine lv_aload_n hx hb dX1_firstBeatenBy_47 rfl (lv_at hl 0 rfl) ?_
        refine x_get hx hb hown hts hK hR kX1 z_141 (j := 2) (by decide) fl_X1_15 (v := .ref (eB E + 143)) rfl dX1_firstBeatenBy_48 ?_
        refine lv_iload_n hx hb dX1_firstBeatenBy_51 rfl (lv_at hl 1 rfl) ?_
        obtain ⟨g52, hf⟩ := br_g hf
        refine x_iald hx hb hK hR z_143 g52 dX1_firstBeatenBy_52 ?_
        refine lv_isub hx hb dX1_firstBeatenBy_53 ?_
        refine lv_aload_n hx hb dX1_firstBeatenBy_54 rfl (lv_at hl 0 rfl) ?_
        refine x_get hx hb hown hts hK hR kX1 z_141 (j := 1) (by decide) fl_X1_9 (v := .ref (eB E + 142)) rfl dX1_firstBeatenBy_55 ?_
        refine lv_iload_n hx hb dX1_firstBeatenBy_58 rfl (lv_at hl 1 rfl) ?_
        obtain ⟨g59, hf⟩ := br_g hf
        refine x_iald hx hb hK hR z_142 g59 dX1_firstBeatenBy_59 ?_
        obtain ⟨q60, c60, hf⟩ := br_b hf
        refine x_callV (k := 1) (As := [.int ((M.1 1 7) - (M.1 143 (ix x3))), .int (M.1 142 (ix x3))]) (rest := []) (st1 := [.int q60]) X hR (ctX8_isEnough_t c60) ml_X1_58 im_X8_isEnough se_X8_isEnough in_X8 co_X8_isEnough yo_X8_isEnough rfl kX8 (z_1 true) (rm_ok (by decide) (by decide)) rfl hl.1 rfl rfl (Nat.le_of_ble_eq_true rfl) dX1_firstBeatenBy_60 ⟨Nat.zero_le _, Nat.zero_le _⟩ (fun H locs hR => ?_)
        refine lv_if_eq (tgt := 68) hx hb dX1_firstBeatenBy_63 (by decide) (fun q63 => ?_) (fun q63 => ?_)
        · have hf := (br_if hf).1 q63
          exact wX1_firstBeatenBy_68 X (fun hf hR hl => ih hf hR hl) (fun hf hR hl => hk66 hf hR hl) (fun hf hR hl => hk74 hf hR hl) hf hR hl
        · have hf := (br_if hf).2 q63
          exact hk66 hf hR (lv_sub hl [1] rfl)
set_option maxHeartbeats 4000000 in
set_option maxRecDepth 100000 in
theorem wX1_firstBeatenBy_66 {r : Int32} {M1 : Mem} (X : CX E p s m args c meth cX1_firstBeatenBy 4 (some .int) RX1) : ∀ {x3 : Int32} {M : Mem} {H : Heap} {locs : List Loc} {ls : Array Slot}, fX1_firstBeatenBy_66 x3 M = some (r, M1) → Rl E (sh_ true) (nn true) s.heap M H locs → lv_has ls 4 [(3, .int x3)] → W p l e (rm 5 0 0) s m args below meth c H locs 0 0 (MQ below (qq E (some (.int r)) (sh_ true) (nn true) M1) args s 0 0 (fr E)) (F0 m 66 ls []) := by
  obtain ⟨hx, hb, hr, hml, hown, hts, hK, hN, hO, hlk, hbs⟩ := id X
  intro x3 M H locs ls hf hR hl
  unfold fX1_firstBeatenBy_66 at hf
  refine lv_iload_n hx hb dX1_firstBeatenBy_66 rfl (lv_at hl 0 rfl) ?_
  cases hf
  exact x_iret hx hb hr hlk hR dX1_firstBeatenBy_67
set_option maxHeartbeats 4000000 in
set_option maxRecDepth 100000 in
theorem wX1_firstBeatenBy_74 {r : Int32} {M1 : Mem} (X : CX E p s m args c meth cX1_firstBeatenBy 4 (some .int) RX1) : ∀ {M : Mem} {H : Heap} {locs : List Loc} {ls : Array Slot}, fX1_firstBeatenBy_74 M = some (r, M1) → Rl E (sh_ true) (nn true) s.heap M H locs → lv_has ls 4 [] → W p l e (rm 5 0 0) s m args below meth c H locs 0 0 (MQ below (qq E (some (.int r)) (sh_ true) (nn true) M1) args s 0 0 (fr E)) (F0 m 74 ls []) := by
  obtain ⟨hx, hb, hr, hml, hown, hts, hK, hN, hO, hlk, hbs⟩ := id X
  intro M H locs ls hf hR hl
  unfold fX1_firstBeatenBy_74 at hf
  refine lv_iconst (v := -1) hx hb dX1_firstBeatenBy_74 (by decide) ?_
  cases hf
  exact x_iret hx hb hr hlk hR dX1_firstBeatenBy_75
set_option maxHeartbeats 4000000 in
set_option maxRecDepth 100000 in
theorem wX1_firstBeatenBy_12 {r : Int32} {M1 : Mem} (X : CX E p s m args c meth cX1_firstBeatenBy 4 (some .int) RX1) : ∀ {x1 : Int32} {x2 : Int32} {M : Mem} {H : Heap} {locs : List Loc} {ls : Array Slot}, fX1_firstBeatenBy_12 x1 x2 M = some (r, M1) → Rl E (sh_ true) (nn true) s.heap M H locs → lv_has ls 4 [(0, .ref (eB E + 141)), (1, .int x1), (2, .int x2)] → W p l e (rm 5 0 0) s m args below meth c H locs 0 0 (MQ below (qq E (some (.int r)) (sh_ true) (nn true) M1) args s 0 0 (fr E)) (F0 m 12 ls []) := by
  obtain ⟨hx, hb, hr, hml, hown, hts, hK, hN, hO, hlk, hbs⟩ := id X
  intro x1 x2 M H locs ls hf hR hl
  unfold fX1_firstBeatenBy_12 at hf
  refine lv_aload_n hx hb dX1_firstBeatenBy_12 rfl (lv_at hl 0 rfl) ?_
  refine lv_iload_n hx hb dX1_firstBeatenBy_13 rfl (lv_at hl 1 rfl) ?_
  refine lv_iload_n hx hb dX1_firstBeatenBy_14 rfl (lv_at hl 2 rfl) ?_
  obtain ⟨q15, c15, hf⟩ := br_b hf
  refine x_callV (k := 141) (As := [.int x1, .int x2]) (rest := []) (st1 := []) X hR (ctX1_weigh c15) ml_X1_45 im_X1_weigh se_X1_weigh in_X1 co_X1_weigh yo_X1_weigh rfl kX1 z_141 (rm_ok (by decide) (by decide)) rfl hl.1 rfl rfl (Nat.le_of_ble_eq_true rfl) dX1_firstBeatenBy_15 ⟨Nat.zero_le _, Nat.zero_le _⟩ (fun H locs hR => ?_)
  refine lv_iconst (v := 0) hx hb dX1_firstBeatenBy_18 (by decide) ?_
  refine lv_istore_n (lv' := [(3, .int (0 : Int32)), (0, .ref (eB E + 141)), (1, .int x1), (2, .int x2)]) hx hb dX1_firstBeatenBy_19 rfl hl (by decide) rfl (fun ls hl => ?_)
  exact wX1_firstBeatenBy_20 X (fun hf hR hl => wX1_firstBeatenBy_66 X hf hR hl) (fun hf hR hl => wX1_firstBeatenBy_74 X hf hR hl) FU hf hR (lv_sub hl [1, 0] rfl)
set_option maxHeartbeats 4000000 in
set_option maxRecDepth 100000 in
theorem wX1_firstBeatenBy_0 {r : Int32} {M1 : Mem} (X : CX E p s m args c meth cX1_firstBeatenBy 4 (some .int) RX1) : ∀ {x1 : Int32} {x2 : Int32} {M : Mem} {H : Heap} {locs : List Loc} {ls : Array Slot}, fX1_firstBeatenBy x1 x2 M = some (r, M1) → Rl E (sh_ true) (nn true) s.heap M H locs → lv_has ls 4 [(0, .ref (eB E + 141)), (1, .int x1), (2, .int x2)] → W p l e (rm 5 0 0) s m args below meth c H locs 0 0 (MQ below (qq E (some (.int r)) (sh_ true) (nn true) M1) args s 0 0 (fr E)) (F0 m 0 ls []) := by
  obtain ⟨hx, hb, hr, hml, hown, hts, hK, hN, hO, hlk, hbs⟩ := id X
  intro x1 x2 M H locs ls hf hR hl
  unfold fX1_firstBeatenBy at hf
  refine lv_aload_n hx hb dX1_firstBeatenBy_0 rfl (lv_at hl 0 rfl) ?_
  refine x_get hx hb hown hts hK hR kX1 z_141 (j := 8) (by decide) fl_X1_28 (v := .int (M.1 141 8)) rfl dX1_firstBeatenBy_1 ?_
  refine lv_iconst (v := -1) hx hb dX1_firstBeatenBy_4 (by decide) ?_
  refine lv_icmp_eq (tgt := 12) hx hb dX1_firstBeatenBy_5 (by decide) (fun q5 => ?_) (fun q5 => ?_)
  · have hf := (br_if hf).1 q5
    exact wX1_firstBeatenBy_12 X hf hR hl
  · have hf := (br_if hf).2 q5
    refine lv_aload_n hx hb dX1_firstBeatenBy_8 rfl (lv_at hl 0 rfl) ?_
    obtain ⟨q9, c9, hf⟩ := br_b hf
    refine x_callV (k := 141) (As := []) (rest := []) (st1 := []) X hR (ctX1_refillWinning c9) ml_X1_111 im_X1_refillWinning se_X1_refillWinning in_X1 co_X1_refillWinning yo_X1_refillWinning rfl kX1 z_141 (rm_ok (by decide) (by decide)) rfl hl.1 rfl rfl (Nat.le_of_ble_eq_true rfl) dX1_firstBeatenBy_9 ⟨Nat.zero_le _, Nat.zero_le _⟩ (fun H locs hR => ?_)
    exact wX1_firstBeatenBy_12 X hf hR hl
theorem ctX1_firstBeatenBy {l : Launch} {E : Ge} {M : Mem} {x1 : Int32} {x2 : Int32} {r : Int32} {M1 : Mem} (h : fX1_firstBeatenBy x1 x2 M = some (r, M1)) : CT l E yX1_firstBeatenBy cX1_firstBeatenBy 4 (some .int) 5 0 0 [.ref (eB E + 141), .int x1, .int x2] (some (.int r)) (sh_ true) (nn true) M (sh_ true) (nn true) M1 := by
  refine met_of (by decide) (Nat.le_of_ble_eq_true rfl) ?_
  intro p e s m args below meth c X _ hR ls hl
  exact wX1_firstBeatenBy_0 X h hR hl
end WK
