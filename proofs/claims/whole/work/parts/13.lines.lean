section WK
variable {p : Program} {l : Launch} {e : Env} {s : State} {m : MethodId} {args : Array Value} {below : List Frame} {meth : Method} {c : Code} {E : Ge} {b : Bool}
def fX2_isHalving_93 (M : Mem) (k9 : Int32 → Int32 → Int32 → Int32 → Int32 → Int32 → Option Int32) (k99 : Int32 → Int32 → Option Int32) (x1 : Int32) (x2 : Int32) (x3 : Int32) (x4 : Int32) (x5 : Int32) (x6 : Int32) : Option Int32 := nx (x6 + (1 : Int32)) (fun v93 => k9 x1 x2 x3 x4 x5 v93)
def fX2_isHalving_9 (M : Mem) (k99 : Int32 → Int32 → Option Int32) : Nat → Int32 → Int32 → Int32 → Int32 → Int32 → Int32 → Option Int32
  | 0, _, _, _, _, _, _ => none
  | n + 1, x1, x2, x3, x4, x5, x6 => (if (M.1 1 0) ≤ x6 then k99 x4 x5 else (if inb x6 15 = true then (if inb x6 15 = true then nx (((x1 * (M.1 2 (ix x6))) + (x2 * (M.1 3 (ix x6)))) - x3) (fun v48 => (if 0 ≤ v48 then (if v48 ≤ 0 then fX2_isHalving_93 M (fX2_isHalving_9 M k99 n) k99 x1 x2 x3 x4 x5 x6 else (if inb x6 15 = true then nx (x5 + (M.1 4 (ix x6))) (fun v91 => fX2_isHalving_93 M (fX2_isHalving_9 M k99 n) k99 x1 x2 x3 x4 v91 x6) else none)) else (if inb x6 15 = true then nx (x4 + (M.1 4 (ix x6))) (fun v68 => fX2_isHalving_93 M (fX2_isHalving_9 M k99 n) k99 x1 x2 x3 v68 x5 x6) else none))) else none) else none))
def fX2_isHalving_128 (M : Mem) (s0 : Int32) : Option Int32 := some (s0 &&& 1)
def fX2_isHalving_127 (M : Mem) : Option Int32 := fX2_isHalving_128 M (0 : Int32)
def fX2_isHalving_99 (M : Mem) (x4 : Int32) (x5 : Int32) : Option Int32 := (fX8_isMoreThanHalf_t M x4).bind (fun q105 => (if q105 = 0 then (fX8_isMoreThanHalf_t M x5).bind (fun q117 => (if q117 = 0 then fX2_isHalving_128 M (1 : Int32) else fX2_isHalving_127 M)) else fX2_isHalving_127 M))
def fX2_isHalving (M : Mem) (x1 : Int32) (x2 : Int32) (x3 : Int32) : Option Int32 := fX2_isHalving_9 M (fX2_isHalving_99 M) FU x1 x2 x3 (0 : Int32) (0 : Int32) (0 : Int32)
set_option maxHeartbeats 4000000 in
set_option maxRecDepth 100000 in
theorem wX2_isHalving_93 {r : Int32} {M : Mem} {k9 : Int32 → Int32 → Int32 → Int32 → Int32 → Int32 → Option Int32} {k99 : Int32 → Int32 → Option Int32} (X : CX E p s m args c meth cX2_isHalving 8 (some .boolean) RX2) (hk9 : ∀ {x1 : Int32} {x2 : Int32} {x3 : Int32} {x4 : Int32} {x5 : Int32} {x6 : Int32} {H : Heap} {locs : List Loc} {ls : Array Slot}, k9 x1 x2 x3 x4 x5 x6 = some r → Rl E (sh_ b) (nn b) s.heap M H locs → lv_has ls 8 [(0, .ref (eB E + 26)), (1, .int x1), (2, .int x2), (3, .int x3), (4, .int x4), (5, .int x5), (6, .int x6)] → W p l e (rm 2 0 0) s m args below meth c H locs 0 0 (MQ below (qq E (some (.int r)) (sh_ b) (nn b) M) args s 0 0 (fr E)) (F0 m 9 ls [])) (hk99 : ∀ {x4 : Int32} {x5 : Int32} {H : Heap} {locs : List Loc} {ls : Array Slot}, k99 x4 x5 = some r → Rl E (sh_ b) (nn b) s.heap M H locs → lv_has ls 8 [(0, .ref (eB E + 26)), (4, .int x4), (5, .int x5)] → W p l e (rm 2 0 0) s m args below meth c H locs 0 0 (MQ below (qq E (some (.int r)) (sh_ b) (nn b) M) args s 0 0 (fr E)) (F0 m 99 ls [])) : ∀ {x1 : Int32} {x2 : Int32} {x3 : Int32} {x4 : Int32} {x5 : Int32} {x6 : Int32} {H : Heap} {locs : List Loc} {ls : Array Slot}, fX2_isHalving_93 M k9 k99 x1 x2 x3 x4 x5 x6 = some r → Rl E (sh_ b) (nn b) s.heap M H locs → lv_has ls 8 [(0, .ref (eB E + 26)), (1, .int x1), (2, .int x2), (3, .int x3), (4, .int x4), (5, .int x5), (6, .int x6)] → W p l e (rm 2 0 0) s m args below meth c H locs 0 0 (MQ below (qq E (some (.int r)) (sh_ b) (nn b) M) args s 0 0 (fr E)) (F0 m 93 ls []) := by
  obtain ⟨hx, hb, hr, hml, hown, hts, hK, hN, hO, hlk, hbs⟩ := id X
  intro x1 x2 x3 x4 x5 x6 H locs ls hf hR hl
  unfold fX2_isHalving_93 at hf
  obtain ⟨v93, e93⟩ : ∃ y : Int32, y = (x6 + (1 : Int32)) := ⟨_, rfl⟩
  have hf := nx_at e93 hf
  refine lv_iinc (v := v93) (lv' := [(6, .int v93), (0, .ref (eB E + 26)), (1, .int x1), (2, .int x2), (3, .int x3), (4, .int x4), (5, .int x5)]) hx hb dX2_isHalving_93 hl (k := 6) rfl (by rw [e93]; rfl) (by decide) rfl (fun ls hl => ?_)
  refine lv_goto (tgt := 9) hx hb dX2_isHalving_96 (by decide) ?_
  exact hk9 hf hR (lv_sub hl [1, 2, 3, 4, 5, 6, 0] rfl)
set_option maxHeartbeats 4000000 in
set_option maxRecDepth 100000 in
theorem wX2_isHalving_9 {r : Int32} {M : Mem} {k99 : Int32 → Int32 → Option Int32} (X : CX E p s m args c meth cX2_isHalving 8 (some .boolean) RX2) (hk99 : ∀ {x4 : Int32} {x5 : Int32} {H : Heap} {locs : List Loc} {ls : Array Slot}, k99 x4 x5 = some r → Rl E (sh_ b) (nn b) s.heap M H locs → lv_has ls 8 [(0, .ref (eB E + 26)), (4, .int x4), (5, .int x5)] → W p l e (rm 2 0 0) s m args below meth c H locs 0 0 (MQ below (qq E (some (.int r)) (sh_ b) (nn b) M) args s 0 0 (fr E)) (F0 m 99 ls [])) : ∀ (n : Nat) {x1 : Int32} {x2 : Int32} {x3 : Int32} {x4 : Int32} {x5 : Int32} {x6 : Int32} {H : Heap} {locs : List Loc} {ls : Array Slot}, fX2_isHalving_9 M k99 n x1 x2 x3 x4 x5 x6 = some r → Rl E (sh_ b) (nn b) s.heap M H locs → lv_has ls 8 [(0, .ref (eB E + 26)), (1, .int x1), (2, .int x2), (3, .int x3), (4, .int x4), (5, .int x5), (6, .int x6)] → W p l e (rm 2 0 0) s m args below meth c H locs 0 0 (MQ below (qq E (some (.int r)) (sh_ b) (nn b) M) args s 0 0 (fr E)) (F0 m 9 ls []) := by
  obtain ⟨hx, hb, hr, hml, hown, hts, hK, hN, hO, hlk, hbs⟩ := id X
  intro n
  induction n with
  | zero =>
    intro x1 x2 x3 x4 x5 x6 H locs ls hf hR hl
    exact absurd (show none = some _ from hf) (fun h => by cases h)
  | succ n ih =>
    intro x1 x2 x3 x4 x5 x6 H locs ls hf hR hl
    rw [fX2_isHalving_9] at hf
    refine lv_iload hx hb dX2_isHalving_9 (lv_at hl 6 rfl) ?_
    refine lv_aload_n hx hb dX2_isHalving_11 rfl (lv_at hl 0 rfl) ?_
    refine x_get hx hb hown hts hK hR kX2 (z_26 b) (j := 0) (by decide) fl_X2_25 (v := .ref (eB E + 1)) rfl dX2_isHalving_12 ?_
    refine x_get hx hb hown hts hK hR kX8 (z_1 b) (j := 0) (by decide) fl_X2_35 (v := .int (M.1 1 0)) rfl dX2_isHalving_15 ?_
    refine lv_icmp_ge (tgt := 99) hx hb dX2_isHalving_18 (by decide) (fun q18 => ?_) (fun q18 => ?_)
    · have hf := (br_if hf).1 q18
      exact hk99 hf hR (lv_sub hl [0, 4, 5] rfl)
    · have hf := (br_if hf).2 q18
      refine lv_iload_n hx hb dX2_isHalving_21 rfl (lv_at hl 1 rfl) ?_
      refine lv_aload_n hx hb dX2_isHalving_22 rfl (lv_at hl 0 rfl) ?_
      refine x_get hx hb hown hts hK hR kX2 (z_26 b) (j := 0) (by decide) fl_X2_25 (v := .ref (eB E + 1)) rfl dX2_isHalving_23 ?_
      refine x_get hx hb hown hts hK hR kX8 (z_1 b) (j := 1) (by decide) fl_X2_45 (v := .ref (eB E + 2)) rfl dX2_isHalving_26 ?_
      refine lv_iload hx hb dX2_isHalving_29 (lv_at hl 6 rfl) ?_
      obtain ⟨g31, hf⟩ := br_g hf
      refine x_iald hx hb hK hR (z_2 b) g31 dX2_isHalving_31 ?_
      refine lv_imul hx hb dX2_isHalving_32 ?_
      refine lv_iload_n hx hb dX2_isHalving_33 rfl (lv_at hl 2 rfl) ?_
      refine lv_aload_n hx hb dX2_isHalving_34 rfl (lv_at hl 0 rfl) ?_
      refine x_get hx hb hown hts hK hR kX2 (z_26 b) (j := 0) (by decide) fl_X2_25 (v := .ref (eB E + 1)) rfl dX2_isHalving_35 ?_
      refine x_get hx hb hown hts hK hR kX8 (z_1 b) (j := 2) (by decide) fl_X2_42 (v := .ref (eB E + 3)) rfl dX2_isHalving_38 ?_
      refine lv_iload hx hb dX2_isHalving_41 (lv_at hl 6 rfl) ?_
      obtain ⟨g43, hf⟩ := br_g hf
      refine x_iald hx hb hK hR (z_3 b) g43 dX2_isHalving_43 ?_
      refine lv_imul hx hb dX2_isHalving_44 ?_
      refine lv_iadd hx hb dX2_isHalving_45 ?_
      refine lv_iload_n hx hb dX2_isHalving_46 rfl (lv_at hl 3 rfl) ?_
      refine lv_isub hx hb dX2_isHalving_47 ?_
      refine lv_topi (fun v48 e48 => ?_)
      have hf := nx_at e48 hf
      refine lv_istore (lv' := [(7, .int v48), (0, .ref (eB E + 26)), (1, .int x1), (2, .int x2), (3, .int x3), (4, .int x4), (5, .int x5), (6, .int x6)]) hx hb dX2_isHalving_48 hl (by decide) rfl (fun ls hl => ?_)
      refine lv_iload hx hb dX2_isHalving_50 (lv_at hl 0 rfl) ?_
      refine lv_if_ge (tgt := 73) hx hb dX2_isHalving_52 (by decide) (fun q52 => ?_) (fun q52 => ?_)
      · have hf := (br_if hf).1 q52
        refine lv_iload hx hb dX2_isHalving_73 (lv_at hl 0 rfl) ?_
        refine lv_if_le (tgt := 93) hx hb dX2_isHalving_75 (by decide) (fun q75 => ?_) (fun q75 => ?_)
        · have hf := (br_if hf).1 q75
          exact wX2_isHalving_93 X (fun hf hR hl => ih hf hR hl) (fun hf hR hl => hk99 hf hR hl) hf hR (lv_sub hl [1, 2, 3, 4, 5, 6, 7] rfl)
        · have hf := (br_if hf).2 q75
          refine lv_iload hx hb dX2_isHalving_78 (lv_at hl 6 rfl) ?_
          refine lv_aload_n hx hb dX2_isHalving_80 rfl (lv_at hl 1 rfl) ?_
          refine x_get hx hb hown hts hK hR kX2 (z_26 b) (j := 0) (by decide) fl_X2_25 (v := .ref (eB E + 1)) rfl dX2_isHalving_81 ?_
          refine x_get hx hb hown hts hK hR kX8 (z_1 b) (j := 3) (by decide) fl_X2_60 (v := .ref (eB E + 4)) rfl dX2_isHalving_84 ?_
          refine lv_iload hx hb dX2_isHalving_87 (lv_at hl 7 rfl) ?_
          obtain ⟨g89, hf⟩ := br_g hf
          refine x_iald hx hb hK hR (z_4 b) g89 dX2_isHalving_89 ?_
          refine lv_iadd hx hb dX2_isHalving_90 ?_
          refine lv_topi (fun v91 e91 => ?_)
          have hf := nx_at e91 hf
          refine lv_istore (lv' := [(5, .int v91), (7, .int v48), (0, .ref (eB E + 26)), (1, .int x1), (2, .int x2), (3, .int x3), (4, .int x4), (6, .int x6)]) hx hb dX2_isHalving_91 hl (by decide) rfl (fun ls hl => ?_)
          exact wX2_isHalving_93 X (fun hf hR hl => ih hf hR hl) (fun hf hR hl => hk99 hf hR hl) hf hR (lv_sub hl [2, 3, 4, 5, 6, 0, 7] rfl)
      · have hf := (br_if hf).2 q52
        refine lv_iload hx hb dX2_isHalving_55 (lv_at hl 5 rfl) ?_
        refine lv_aload_n hx hb dX2_isHalving_57 rfl (lv_at hl 1 rfl) ?_
        refine x_get hx hb hown hts hK hR kX2 (z_26 b) (j := 0) (by decide) fl_X2_25 (v := .ref (eB E + 1)) rfl dX2_isHalving_58 ?_
        refine x_get hx hb hown hts hK hR kX8 (z_1 b) (j := 3) (by decide) fl_X2_60 (v := .ref (eB E + 4)) rfl dX2_isHalving_61 ?_
        refine lv_iload hx hb dX2_isHalving_64 (lv_at hl 7 rfl) ?_
        obtain ⟨g66, hf⟩ := br_g hf
        refine x_iald hx hb hK hR (z_4 b) g66 dX2_isHalving_66 ?_
        refine lv_iadd hx hb dX2_isHalving_67 ?_
        refine lv_topi (fun v68 e68 => ?_)
        have hf := nx_at e68 hf
        refine lv_istore (lv' := [(4, .int v68), (7, .int v48), (0, .ref (eB E + 26)), (1, .int x1), (2, .int x2), (3, .int x3), (5, .int x5), (6, .int x6)]) hx hb dX2_isHalving_68 hl (by decide) rfl (fun ls hl => ?_)
        refine lv_goto (tgt := 93) hx hb dX2_isHalving_70 (by decide) ?_
        exact wX2_isHalving_93 X (fun hf hR hl => ih hf hR hl) (fun hf hR hl => hk99 hf hR hl) hf hR (lv_sub hl [2, 3, 4, 5, 0, 6, 7] rfl)
set_option maxHeartbeats 4000000 in
set_option maxRecDepth 100000 in
theorem wX2_isHalving_128 {r : Int32} {M : Mem} (X : CX E p s m args c meth cX2_isHalving 8 (some .boolean) RX2) : ∀ {s0 : Int32} {H : Heap} {locs : List Loc} {ls : Array Slot}, fX2_isHalving_128 M s0 = some r → Rl E (sh_ b) (nn b) s.heap M H locs → lv_has ls 8 [] → W p l e (rm 2 0 0) s m args below meth c H locs 0 0 (MQ below (qq E (some (.int r)) (sh_ b) (nn b) M) args s 0 0 (fr E)) (F0 m 128 ls [.int s0]) := by
  obtain ⟨hx, hb, hr, hml, hown, hts, hK, hN, hO, hlk, hbs⟩ := id X
  intro s0 H locs ls hf hR hl
  unfold fX2_isHalving_128 at hf
  cases hf
  exact x_zret hx hb hr hlk hR rfl dX2_isHalving_128
set_option maxHeartbeats 4000000 in
set_option maxRecDepth 100000 in
theorem wX2_isHalving_127 {r : Int32} {M : Mem} (X : CX E p s m args c meth cX2_isHalving 8 (some .boolean) RX2) : ∀ {H : Heap} {locs : List Loc} {ls : Array Slot}, fX2_isHalving_127 M = some r → Rl E (sh_ b) (nn b) s.heap M H locs → lv_has ls 8 [] → W p l e (rm 2 0 0) s m args below meth c H locs 0 0 (MQ below (qq E (some (.int r)) (sh_ b) (nn b) M) args s 0 0 (fr E)) (F0 m 127 ls []) := by
  obtain ⟨hx, hb, hr, hml, hown, hts, hK, hN, hO, hlk, hbs⟩ := id X
  intro H locs ls hf hR hl
  unfold fX2_isHalving_127 at hf
  refine lv_iconst (v := 0) hx hb dX2_isHalving_127 (by decide) ?_
  exact wX2_isHalving_128 X hf hR hl
set_option maxHeartbeats 4000000 in
set_option maxRecDepth 100000 in
theorem wX2_isHalving_99 {r : Int32} {M : Mem} (X : CX E p s m args c meth cX2_isHalving 8 (some .boolean) RX2) : ∀ {x4 : Int32} {x5 : Int32} {H : Heap} {locs : List Loc} {ls : Array Slot}, fX2_isHalving_99 M x4 x5 = some r → Rl E (sh_ b) (nn b) s.heap M H locs → lv_has ls 8 [(0, .ref (eB E + 26)), (4, .int x4), (5, .int x5)] → W p l e (rm 2 0 0) s m args below meth c H locs 0 0 (MQ below (qq E (some (.int r)) (sh_ b) (nn b) M) args s 0 0 (fr E)) (F0 m 99 ls []) := by
  obtain ⟨hx, hb, hr, hml, hown, hts, hK, hN, hO, hlk, hbs⟩ := id X
  intro x4 x5 H locs ls hf hR hl
  unfold fX2_isHalving_99 at hf
  refine lv_aload_n hx hb dX2_isHalving_99 rfl (lv_at hl 0 rfl) ?_
  refine x_get hx hb hown hts hK hR kX2 (z_26 b) (j := 0) (by decide) fl_X2_25 (v := .ref (eB E + 1)) rfl dX2_isHalving_100 ?_
  refine lv_iload hx hb dX2_isHalving_103 (lv_at hl 1 rfl) ?_
  obtain ⟨q105, c105, hf⟩ := br_b hf
  refine x_callV (k := 1) (As := [.int x4]) (rest := []) (st1 := [.int q105]) X hR (ctX8_isMoreThanHalf_t c105) ml_X2_63 im_X8_isMoreThanHalf se_X8_isMoreThanHalf in_X8 co_X8_isMoreThanHalf yo_X8_isMoreThanHalf rfl kX8 (z_1 b) (rm_ok (by decide) (by decide)) rfl hl.1 rfl rfl (Nat.le_of_ble_eq_true rfl) dX2_isHalving_105 ⟨Nat.zero_le _, Nat.zero_le _⟩ (fun H locs hR => ?_)
  refine lv_if_ne (tgt := 127) hx hb dX2_isHalving_108 (by decide) (fun q108 => ?_) (fun q108 => ?_)
  · have hf := (br_if hf).2 q108
    exact wX2_isHalving_127 X hf hR (lv_sub hl [] rfl)
  · have hf := (br_if hf).1 q108
    refine lv_aload_n hx hb dX2_isHalving_111 rfl (lv_at hl 0 rfl) ?_
    refine x_get hx hb hown hts hK hR kX2 (z_26 b) (j := 0) (by decide) fl_X2_25 (v := .ref (eB E + 1)) rfl dX2_isHalving_112 ?_
    refine lv_iload hx hb dX2_isHalving_115 (lv_at hl 2 rfl) ?_
    obtain ⟨q117, c117, hf⟩ := br_b hf
    refine x_callV (k := 1) (As := [.int x5]) (rest := []) (st1 := [.int q117]) X hR (ctX8_isMoreThanHalf_t c117) ml_X2_63 im_X8_isMoreThanHalf se_X8_isMoreThanHalf in_X8 co_X8_isMoreThanHalf yo_X8_isMoreThanHalf rfl kX8 (z_1 b) (rm_ok (by decide) (by decide)) rfl hl.1 rfl rfl (Nat.le_of_ble_eq_true rfl) dX2_isHalving_117 ⟨Nat.zero_le _, Nat.zero_le _⟩ (fun H locs hR => ?_)
    refine lv_if_ne (tgt := 127) hx hb dX2_isHalving_120 (by decide) (fun q120 => ?_) (fun q120 => ?_)
    · have hf := (br_if hf).2 q120
      exact wX2_isHalving_127 X hf hR (lv_sub hl [] rfl)
    · have hf := (br_if hf).1 q120
      refine lv_iconst (v := 1) hx hb dX2_isHalving_123 (by decide) ?_
      refine lv_goto (tgt := 128) hx hb dX2_isHalving_124 (by decide) ?_
      exact wX2_isHalving_128 X hf hR (lv_sub hl [] rfl)
set_option maxHeartbeats 4000000 in
set_option maxRecDepth 100000 in
theorem wX2_isHalving_0 {r : Int32} {M : Mem} (X : CX E p s m args c meth cX2_isHalving 8 (some .boolean) RX2) : ∀ {x1 : Int32} {x2 : Int32} {x3 : Int32} {H : Heap} {locs : List Loc} {ls : Array Slot}, fX2_isHalving M x1 x2 x3 = some r → Rl E (sh_ b) (nn b) s.heap M H locs → lv_has ls 8 [(0, .ref (eB E + 26)), (1, .int x1), (2, .int x2), (3, .int x3)] → W p l e (rm 2 0 0) s m args below meth c H locs 0 0 (MQ below (qq E (some (.int r)) (sh_ b) (nn b) M) args s 0 0 (fr E)) (F0 m 0 ls []) := by
  obtain ⟨hx, hb, hr, hml, hown, hts, hK, hN, hO, hlk, hbs⟩ := id X
  intro x1 x2 x3 H locs ls hf hR hl
  unfold fX2_isHalving at hf
  refine lv_iconst (v := 0) hx hb dX2_isHalving_0 (by decide) ?_
  refine lv_istore (lv' := [(4, .int (0 : Int32)), (0, .ref (eB E + 26)), (1, .int x1), (2, .int x2), (3, .int x3)]) hx hb dX2_isHalving_1 hl (by decide) rfl (fun ls hl => ?_)
  refine lv_iconst (v := 0) hx hb dX2_isHalving_3 (by decide) ?_
  refine lv_istore (lv' := [(5, .int (0 : Int32)), (4, .int (0 : Int32)), (0, .ref (eB E + 26)), (1, .int x1), (2, .int x2), (3, .int x3)]) hx hb dX2_isHalving_4 hl (by decide) rfl (fun ls hl => ?_)
  refine lv_iconst (v := 0) hx hb dX2_isHalving_6 (by decide) ?_
  refine lv_istore (lv' := [(6, .int (0 : Int32)), (5, .int (0 : Int32)), (4, .int (0 : Int32)), (0, .ref (eB E + 26)), (1, .int x1), (2, .int x2), (3, .int x3)]) hx hb dX2_isHalving_7 hl (by decide) rfl (fun ls hl => ?_)
  exact wX2_isHalving_9 X (fun hf hR hl => wX2_isHalving_99 X hf hR hl) FU hf hR (lv_sub hl [3, 4, 5, 6, 2, 1, 0] rfl)
theorem ctX2_isHalving {l : Launch} {E : Ge} {b : Bool} {M : Mem} {x1 : Int32} {x2 : Int32} {x3 : Int32} {r : Int32} (h : fX2_isHalving M x1 x2 x3 = some r) : CT l E yX2_isHalving cX2_isHalving 8 (some .boolean) 2 0 0 [.ref (eB E + 26), .int x1, .int x2, .int x3] (some (.int r)) (sh_ b) (nn b) M (sh_ b) (nn b) M := by
  refine met_of (by decide) (Nat.le_of_ble_eq_true rfl) ?_
  intro p e s m args below meth c X _ hR ls hl
  exact wX2_isHalving_0 X h hR hl
def fX2_order_59 (M : Mem) (s0 : Int32) : Option Int32 := some s0
def fX2_order_45 (M : Mem) (x1 : Int32) : Option Int32 := (if inb x1 105 = true then (if (M.1 27 (ix x1)) = 0 then fX2_order_59 M (1 : Int32) else fX2_order_59 M (-1 : Int32)) else none)
def fX2_order_32 (M : Mem) (x1 : Int32) (x2 : Int32) (x3 : Int32) : Option Int32 := (if inb x1 105 = true then (if (M.1 27 (ix x1)) = 0 then fX2_order_45 M x1 else (if x2 = 0 then fX2_order_45 M x1 else (if inb x1 105 = true then (if inb x1 105 = true then (fJ6_compare_7cf53 M ((M.1 28 (ix x1)) * x2) (x3 * (M.1 27 (ix x1)))).bind (fun q76 => some q76) else none) else none))) else none)
def fX2_order (M : Mem) (x1 : Int32) (x2 : Int32) (x3 : Int32) (x4 : Int32) : Option Int32 := (if inb x1 105 = true then (if (M.1 27 (ix x1)) = x2 then (if inb x1 105 = true then (if (M.1 28 (ix x1)) = x3 then (if inb x1 105 = true then (fJ6_compare_7cf53 M (M.1 29 (ix x1)) x4).bind (fun q28 => some q28) else none) else fX2_order_32 M x1 x2 x3) else none) else fX2_order_32 M x1 x2 x3) else none)
set_option maxHeartbeats 4000000 in
set_option maxRecDepth 100000 in
theorem wX2_order_59 {r : Int32} {M : Mem} (X : CX E p s m args c meth cX2_order 5 (some .int) RX2) : ∀ {s0 : Int32} {H : Heap} {locs : List Loc} {ls : Array Slot}, fX2_order_59 M s0 = some r → Rl E (sh_ b) (nn b) s.heap M H locs → lv_has ls 5 [] → W p l e (rm 2 0 0) s m args below meth c H locs 0 0 (MQ below (qq E (some (.int r)) (sh_ b) (nn b) M) args s 0 0 (fr E)) (F0 m 59 ls [.int s0]) := by
  obtain ⟨hx, hb, hr, hml, hown, hts, hK, hN, hO, hlk, hbs⟩ := id X
  intro s0 H locs ls hf hR hl
  unfold fX2_order_59 at hf
  cases hf
  exact x_iret hx hb hr hlk hR dX2_order_59
set_option maxHeartbeats 4000000 in
set_option maxRecDepth 100000 in
theorem wX2_order_45 {r : Int32} {M : Mem} (X : CX E p s m args c meth cX2_order 5 (some .int) RX2) : ∀ {x1 : Int32} {H : Heap} {locs : List Loc} {ls : Array Slot}, fX2_order_45 M x1 = some r → Rl E (sh_ b) (nn b) s.heap M H locs → lv_has ls 5 [(0, .ref (eB E + 26)), (1, .int x1)] → W p l e (rm 2 0 0) s m args below meth c H locs 0 0 (MQ below (qq E (some (.int r)) (sh_ b) (nn b) M) args s 0 0 (fr E)) (F0 m 45 ls []) := by
  obtain ⟨hx, hb, hr, hml, hown, hts, hK, hN, hO, hlk, hbs⟩ := id X
  intro x1 H locs ls hf hR hl
  unfold fX2_order_45 at hf
  refine lv_aload_n hx hb dX2_order_45 rfl (lv_at hl 0 rfl) ?_
  refine x_get hx hb hown hts hK hR kX2 (z_26 b) (j := 1) (by decide) fl_X2_11 (v := .ref (eB E + 27)) rfl dX2_order_46 ?_
  refine lv_iload_n hx hb dX2_order_49 rfl (lv_at hl 1 rfl) ?_
  obtain ⟨g50, hf⟩ := br_g hf
  refine x_iald hx hb hK hR (z_27 b) g50 dX2_order_50 ?_
  refine lv_if_ne (tgt := 58) hx hb dX2_order_51 (by decide) (fun q51 => ?_) (fun q51 => ?_)
  · have hf := (br_if hf).2 q51
    refine lv_iconst (v := -1) hx hb dX2_order_58 (by decide) ?_
    exact wX2_order_59 X hf hR (lv_sub hl [] rfl)
  · have hf := (br_if hf).1 q51
    refine lv_iconst (v := 1) hx hb dX2_order_54 (by decide) ?_
    refine lv_goto (tgt := 59) hx hb dX2_order_55 (by decide) ?_
    exact wX2_order_59 X hf hR (lv_sub hl [] rfl)
set_option maxHeartbeats 4000000 in
set_option maxRecDepth 100000 in
theorem wX2_order_32 {r : Int32} {M : Mem} (X : CX E p s m args c meth cX2_order 5 (some .int) RX2) : ∀ {x1 : Int32} {x2 : Int32} {x3 : Int32} {H : Heap} {locs : List Loc} {ls : Array Slot}, fX2_order_32 M x1 x2 x3 = some r → Rl E (sh_ b) (nn b) s.heap M H locs → lv_has ls 5 [(0, .ref (eB E + 26)), (1, .int x1), (2, .int x2), (3, .int x3)] → W p l e (rm 2 0 0) s m args below meth c H locs 0 0 (MQ below (qq E (some (.int r)) (sh_ b) (nn b) M) args s 0 0 (fr E)) (F0 m 32 ls []) := by
  obtain ⟨hx, hb, hr, hml, hown, hts, hK, hN, hO, hlk, hbs⟩ := id X
  intro x1 x2 x3 H locs ls hf hR hl
  unfold fX2_order_32 at hf
  refine lv_aload_n hx hb dX2_order_32 rfl (lv_at hl 0 rfl) ?_
  refine x_get hx hb hown hts hK hR kX2 (z_26 b) (j := 1) (by decide) fl_X2_11 (v := .ref (eB E + 27)) rfl dX2_order_33 ?_
  refine lv_iload_n hx hb dX2_order_36 rfl (lv_at hl 1 rfl) ?_
  obtain ⟨g37, hf⟩ := br_g hf
  refine x_iald hx hb hK hR (z_27 b) g37 dX2_order_37 ?_
  refine lv_if_eq (tgt := 45) hx hb dX2_order_38 (by decide) (fun q38 => ?_) (fun q38 => ?_)
  · have hf := (br_if hf).1 q38
    exact wX2_order_45 X hf hR (lv_sub hl [0, 1] rfl)
  · have hf := (br_if hf).2 q38
    refine lv_iload_n hx hb dX2_order_41 rfl (lv_at hl 2 rfl) ?_
    refine lv_if_ne (tgt := 60) hx hb dX2_order_42 (by decide) (fun q42 => ?_) (fun q42 => ?_)
    · have hf := (br_if hf).2 q42
      refine lv_aload_n hx hb dX2_order_60 rfl (lv_at hl 0 rfl) ?_
      refine x_get hx hb hown hts hK hR kX2 (z_26 b) (j := 2) (by decide) fl_X2_15 (v := .ref (eB E + 28)) rfl dX2_order_61 ?_
      refine lv_iload_n hx hb dX2_order_64 rfl (lv_at hl 1 rfl) ?_
      obtain ⟨g65, hf⟩ := br_g hf
      refine x_iald hx hb hK hR (z_28 b) g65 dX2_order_65 ?_
      refine lv_iload_n hx hb dX2_order_66 rfl (lv_at hl 2 rfl) ?_
      refine lv_imul hx hb dX2_order_67 ?_
      refine lv_iload_n hx hb dX2_order_68 rfl (lv_at hl 3 rfl) ?_
      refine lv_aload_n hx hb dX2_order_69 rfl (lv_at hl 0 rfl) ?_
      refine x_get hx hb hown hts hK hR kX2 (z_26 b) (j := 1) (by decide) fl_X2_11 (v := .ref (eB E + 27)) rfl dX2_order_70 ?_
      refine lv_iload_n hx hb dX2_order_73 rfl (lv_at hl 1 rfl) ?_
      obtain ⟨g74, hf⟩ := br_g hf
      refine x_iald hx hb hK hR (z_27 b) g74 dX2_order_74 ?_
      refine lv_imul hx hb dX2_order_75 ?_
      obtain ⟨q76, c76, hf⟩ := br_b hf
      refine x_callS (As := [.int ((M.1 28 (ix x1)) * x2), .int (x3 * (M.1 27 (ix x1)))]) (rest := []) (st1 := [.int q76]) X hR (ctJ6_compare_7cf53 c76) ml_X2_71 st_J6_compare_7cf53 in_J6 co_J6_compare_7cf53 yo_J6_compare_7cf53 (rm_ok (by decide) (by decide)) rfl hl.1 rfl rfl (Nat.le_of_ble_eq_true rfl) dX2_order_76 ⟨Nat.zero_le _, Nat.zero_le _⟩ (fun H locs hR => ?_)
      cases hf
      exact x_iret hx hb hr hlk hR dX2_order_79
    · have hf := (br_if hf).1 q42
      exact wX2_order_45 X hf hR (lv_sub hl [0, 1] rfl)
set_option maxHeartbeats 4000000 in
set_option maxRecDepth 100000 in
theorem wX2_order_0 {r : Int32} {M : Mem} (X : CX E p s m args c meth cX2_order 5 (some .int) RX2) : ∀ {x1 : Int32} {x2 : Int32} {x3 : Int32} {x4 : Int32} {H : Heap} {locs : List Loc} {ls : Array Slot}, fX2_order M x1 x2 x3 x4 = some r → Rl E (sh_ b) (nn b) s.heap M H locs → lv_has ls 5 [(0, .ref (eB E + 26)), (1, .int x1), (2, .int x2), (3, .int x3), (4, .int x4)] → W p l e (rm 2 0 0) s m args below meth c H locs 0 0 (MQ below (qq E (some (.int r)) (sh_ b) (nn b) M) args s 0 0 (fr E)) (F0 m 0 ls []) := by
  obtain ⟨hx, hb, hr, hml, hown, hts, hK, hN, hO, hlk, hbs⟩ := id X
  intro x1 x2 x3 x4 H locs ls hf hR hl
  unfold fX2_order at hf
  refine lv_aload_n hx hb dX2_order_0 rfl (lv_at hl 0 rfl) ?_
  refine x_get hx hb hown hts hK hR kX2 (z_26 b) (j := 1) (by decide) fl_X2_11 (v := .ref (eB E + 27)) rfl dX2_order_1 ?_
  refine lv_iload_n hx hb dX2_order_4 rfl (lv_at hl 1 rfl) ?_
  obtain ⟨g5, hf⟩ := br_g hf
  refine x_iald hx hb hK hR (z_27 b) g5 dX2_order_5 ?_
  refine lv_iload_n hx hb dX2_order_6 rfl (lv_at hl 2 rfl) ?_
  refine lv_icmp_ne (tgt := 32) hx hb dX2_order_7 (by decide) (fun q7 => ?_) (fun q7 => ?_)
  · have hf := (br_if hf).2 q7
    exact wX2_order_32 X hf hR (lv_sub hl [0, 1, 2, 3] rfl)
  · have hf := (br_if hf).1 q7
    refine lv_aload_n hx hb dX2_order_10 rfl (lv_at hl 0 rfl) ?_
    refine x_get hx hb hown hts hK hR kX2 (z_26 b) (j := 2) (by decide) fl_X2_15 (v := .ref (eB E + 28)) rfl dX2_order_11 ?_
    refine lv_iload_n hx hb dX2_order_14 rfl (lv_at hl 1 rfl) ?_
    obtain ⟨g15, hf⟩ := br_g hf
    refine x_iald hx hb hK hR (z_28 b) g15 dX2_order_15 ?_
    refine lv_iload_n hx hb dX2_order_16 rfl (lv_at hl 3 rfl) ?_
    refine lv_icmp_ne (tgt := 32) hx hb dX2_order_17 (by decide) (fun q17 => ?_) (fun q17 => ?_)
    · have hf := (br_if hf).2 q17
      exact wX2_order_32 X hf hR (lv_sub hl [0, 1, 2, 3] rfl)
    · have hf := (br_if hf).1 q17
      refine lv_aload_n hx hb dX2_order_20 rfl (lv_at hl 0 rfl) ?_
      refine x_get hx hb hown hts hK hR kX2 (z_26 b) (j := 3) (by decide) fl_X2_18 (v := .ref (eB E + 29)) rfl dX2_order_21 ?_
      refine lv_iload_n hx hb dX2_order_24 rfl (lv_at hl 1 rfl) ?_
      obtain ⟨g25, hf⟩ := br_g hf
      refine x_iald hx hb hK hR (z_29 b) g25 dX2_order_25 ?_
      refine lv_iload hx hb dX2_order_26 (lv_at hl 4 rfl) ?_
      obtain ⟨q28, c28, hf⟩ := br_b hf
      refine x_callS (As := [.int (M.1 29 (ix x1)), .int x4]) (rest := []) (st1 := [.int q28]) X hR (ctJ6_compare_7cf53 c28) ml_X2_71 st_J6_compare_7cf53 in_J6 co_J6_compare_7cf53 yo_J6_compare_7cf53 (rm_ok (by decide) (by decide)) rfl hl.1 rfl rfl (Nat.le_of_ble_eq_true rfl) dX2_order_28 ⟨Nat.zero_le _, Nat.zero_le _⟩ (fun H locs hR => ?_)
      cases hf
      exact x_iret hx hb hr hlk hR dX2_order_31
theorem ctX2_order {l : Launch} {E : Ge} {b : Bool} {M : Mem} {x1 : Int32} {x2 : Int32} {x3 : Int32} {x4 : Int32} {r : Int32} (h : fX2_order M x1 x2 x3 x4 = some r) : CT l E yX2_order cX2_order 5 (some .int) 2 0 0 [.ref (eB E + 26), .int x1, .int x2, .int x3, .int x4] (some (.int r)) (sh_ b) (nn b) M (sh_ b) (nn b) M := by
  refine met_of (by decide) (Nat.le_of_ble_eq_true rfl) ?_
  intro p e s m args below meth c X _ hR ls hl
  exact wX2_order_0 X h hR hl
def fX2_insert_3 (k30 : Int32 → Int32 → Int32 → Int32 → Mem → Option Mem) : Nat → Int32 → Int32 → Int32 → Int32 → Mem → Option Mem
  | 0, _, _, _, _, _ => none
  | n + 1, x1, x2, x3, x4, M => (if (M.1 26 4) ≤ x4 then k30 x1 x2 x3 x4 M else (fX2_order M x4 x1 x2 x3).bind (fun q18 => (if 0 ≤ q18 then k30 x1 x2 x3 x4 M else nx (x4 + (1 : Int32)) (fun v24 => fX2_insert_3 k30 n x1 x2 x3 v24 M))))
def fX2_insert_60 (M : Mem) : Option Mem := some M
def fX2_insert_67 (k128 : Int32 → Int32 → Int32 → Int32 → Mem → Option Mem) : Nat → Int32 → Int32 → Int32 → Int32 → Int32 → Mem → Option Mem
  | 0, _, _, _, _, _, _ => none
  | n + 1, x1, x2, x3, x4, x5, M => (if x5 ≤ x4 then k128 x1 x2 x3 x4 M else (if inb (x5 - (1 : Int32)) 105 = true then (if inb x5 105 = true then nx (sI M 27 (ix x5) (M.1 27 (ix (x5 - (1 : Int32))))) (fun M89 => (if inb (x5 - (1 : Int32)) 105 = true then (if inb x5 105 = true then nx (sI M89 28 (ix x5) (M89.1 28 (ix (x5 - (1 : Int32))))) (fun M105 => (if inb (x5 - (1 : Int32)) 105 = true then (if inb x5 105 = true then nx (sI M105 29 (ix x5) (M105.1 29 (ix (x5 - (1 : Int32))))) (fun M121 => nx (x5 + (-1 : Int32)) (fun v122 => fX2_insert_67 k128 n x1 x2 x3 x4 v122 M121)) else none) else none)) else none) else none)) else none) else none))
def fX2_insert_128 (x1 : Int32) (x2 : Int32) (x3 : Int32) (x4 : Int32) (M : Mem) : Option Mem := (if inb x4 105 = true then nx (sI M 27 (ix x4) x1) (fun M135 => (if inb x4 105 = true then nx (sI M135 28 (ix x4) x2) (fun M143 => (if inb x4 105 = true then nx (sI M143 29 (ix x4) x3) (fun M151 => nx (sI M151 26 4 ((M151.1 26 4) + (1 : Int32))) (fun M159 => some M159)) else none)) else none)) else none)
def fX2_insert_61 (x1 : Int32) (x2 : Int32) (x3 : Int32) (x4 : Int32) (M : Mem) : Option Mem := nx (M.1 26 4) (fun v65 => fX2_insert_67 fX2_insert_128 FU x1 x2 x3 x4 v65 M)
def fX2_insert_30 (x1 : Int32) (x2 : Int32) (x3 : Int32) (x4 : Int32) (M : Mem) : Option Mem := (if (105 : Int32) ≤ (M.1 26 4) then fX2_insert_60 M else (if (M.1 26 4) ≤ x4 then fX2_insert_61 x1 x2 x3 x4 M else (fX2_order M x4 x1 x2 x3).bind (fun q54 => (if q54 = 0 then fX2_insert_60 M else fX2_insert_61 x1 x2 x3 x4 M))))
def fX2_insert (x1 : Int32) (x2 : Int32) (x3 : Int32) (M : Mem) : Option Mem := fX2_insert_3 fX2_insert_30 FU x1 x2 x3 (0 : Int32) M
set_option maxHeartbeats 4000000 in
set_option maxRecDepth 100000 in
theorem wX2_insert_3 {M1 : Mem} {k30 : Int32 → Int32 → Int32 → Int32 → Mem → Option Mem} (X : CX E p s m args c meth cX2_insert 6 none RX2) (hk30 : ∀ {x1 : Int32} {x2 : Int32} {x3 : Int32} {x4 : Int32} {M : Mem} {H : Heap} {locs : List Loc} {ls : Array Slot}, k30 x1 x2 x3 x4 M = some M1 → Rl E (sh_ b) (nn b) s.heap M H locs → lv_has ls 6 [(0, .ref (eB E + 26)), (1, .int x1), (2, .int x2), (3, .int x3), (4, .int x4)] → W p l e (rm 3 0 0) s m args below meth c H locs 0 0 (MQ below (qq E none (sh_ b) (nn b) M1) args s 0 0 (fr E)) (F0 m 30 ls [])) : ∀ (n : Nat) {x1 : Int32} {x2 : Int32} {x3 : Int32} {x4 : Int32} {M : Mem} {H : Heap} {locs : List Loc} {ls : Array Slot}, fX2_insert_3 k30 n x1 x2 x3 x4 M = some M1 → Rl E (sh_ b) (nn b) s.heap M H locs → lv_has ls 6 [(0, .ref (eB E + 26)), (1, .int x1), (2, .int x2), (3, .int x3), (4, .int x4)] → W p l e (rm 3 0 0) s m args below meth c H locs 0 0 (MQ below (qq E none (sh_ b) (nn b) M1) args s 0 0 (fr E)) (F0 m 3 ls []) := by
  obtain ⟨hx, hb, hr, hml, hown, hts, hK, hN, hO, hlk, hbs⟩ := id X
  intro n
  induction n with
  | zero =>
    intro x1 x2 x3 x4 M H locs ls hf hR hl
    exact absurd (show none = some _ from hf) (fun h => by cases h)
  | succ n ih =>
    intro x1 x2 x3 x4 M H locs ls hf hR hl
    rw [fX2_insert_3] at hf
    refine lv_iload hx hb dX2_insert_3 (lv_at hl 4 rfl) ?_
    refine lv_aload_n hx hb dX2_insert_5 rfl (lv_at hl 0 rfl) ?_
    refine x_get hx hb hown hts hK hR kX2 (z_26 b) (j := 4) (by decide) fl_X2_32 (v := .int (M.1 26 4)) rfl dX2_insert_6 ?_
    refine lv_icmp_ge (tgt := 30) hx hb dX2_insert_9 (by decide) (fun q9 => ?_) (fun q9 => ?_)
    · have hf := (br_if hf).1 q9
      exact hk30 hf hR hl
    · have hf := (br_if hf).2 q9
      refine lv_aload_n hx hb dX2_insert_12 rfl (lv_at hl 0 rfl) ?_
      refine lv_iload hx hb dX2_insert_13 (lv_at hl 4 rfl) ?_
      refine lv_iload_n hx hb dX2_insert_15 rfl (lv_at hl 1 rfl) ?_
      refine lv_iload_n hx hb dX2_insert_16 rfl (lv_at hl 2 rfl) ?_
      refine lv_iload_n hx hb dX2_insert_17 rfl (lv_at hl 3 rfl) ?_
      obtain ⟨q18, c18, hf⟩ := br_b hf
      refine x_callV (k := 26) (As := [.int x4, .int x1, .int x2, .int x3]) (rest := []) (st1 := [.int q18]) X hR (ctX2_order c18) ml_X2_67 im_X2_order se_X2_order in_X2 co_X2_order yo_X2_order rfl kX2 (z_26 b) (rm_ok (by decide) (by decide)) rfl hl.1 rfl rfl (Nat.le_of_ble_eq_true rfl) dX2_insert_18 ⟨Nat.zero_le _, Nat.zero_le _⟩ (fun H locs hR => ?_)
      refine lv_if_ge (tgt := 30) hx hb dX2_insert_21 (by decide) (fun q21 => ?_) (fun q21 => ?_)
      · have hf := (br_if hf).1 q21
        exact hk30 hf hR hl
      · have hf := (br_if hf).2 q21
        obtain ⟨v24, e24⟩ : ∃ y : Int32, y = (x4 + (1 : Int32)) := ⟨_, rfl⟩
        have hf := nx_at e24 hf
        refine lv_iinc (v := v24) (lv' := [(4, .int v24), (0, .ref (eB E + 26)), (1, .int x1), (2, .int x2), (3, .int x3)]) hx hb dX2_insert_24 hl (k := 4) rfl (by rw [e24]; rfl) (by decide) rfl (fun ls hl => ?_)
        refine lv_goto (tgt := 3) hx hb dX2_insert_27 (by decide) ?_
        exact ih hf hR (lv_sub hl [1, 2, 3, 4, 0] rfl)
set_option maxHeartbeats 4000000 in
set_option maxRecDepth 100000 in
theorem wX2_insert_60 {M1 : Mem} (X : CX E p s m args c meth cX2_insert 6 none RX2) : ∀ {M : Mem} {H : Heap} {locs : List Loc} {ls : Array Slot}, fX2_insert_60 M = some M1 → Rl E (sh_ b) (nn b) s.heap M H locs → lv_has ls 6 [] → W p l e (rm 3 0 0) s m args below meth c H locs 0 0 (MQ below (qq E none (sh_ b) (nn b) M1) args s 0 0 (fr E)) (F0 m 60 ls []) := by
  obtain ⟨hx, hb, hr, hml, hown, hts, hK, hN, hO, hlk, hbs⟩ := id X
  intro M H locs ls hf hR hl
  unfold fX2_insert_60 at hf
  cases hf
  exact x_vret hx hb hr hlk hR dX2_insert_60
set_option maxHeartbeats 4000000 in
set_option maxRecDepth 100000 in
theorem wX2_insert_67 {M1 : Mem} {k128 : Int32 → Int32 → Int32 → Int32 → Mem → Option Mem} (X : CX E p s m args c meth cX2_insert 6 none RX2) (hk128 : ∀ {x1 : Int32} {x2 : Int32} {x3 : Int32} {x4 : Int32} {M : Mem} {H : Heap} {locs : List Loc} {ls : Array Slot}, k128 x1 x2 x3 x4 M = some M1 → Rl E (sh_ b) (nn b) s.heap M H locs → lv_has ls 6 [(0, .ref (eB E + 26)), (1, .int x1), (2, .int x2), (3, .int x3), (4, .int x4)] → W p l e (rm 3 0 0) s m args below meth c H locs 0 0 (MQ below (qq E none (sh_ b) (nn b) M1) args s 0 0 (fr E)) (F0 m 128 ls [])) : ∀ (n : Nat) {x1 : Int32} {x2 : Int32} {x3 : Int32} {x4 : Int32} {x5 : Int32} {M : Mem} {H : Heap} {locs : List Loc} {ls : Array Slot}, fX2_insert_67 k128 n x1 x2 x3 x4 x5 M = some M1 → Rl E (sh_ b) (nn b) s.heap M H locs → lv_has ls 6 [(0, .ref (eB E + 26)), (1, .int x1), (2, .int x2), (3, .int x3), (4, .int x4), (5, .int x5)] → W p l e (rm 3 0 0) s m args below meth c H locs 0 0 (MQ below (qq E none (sh_ b) (nn b) M1) args s 0 0 (fr E)) (F0 m 67 ls []) := by
  obtain ⟨hx, hb, hr, hml, hown, hts, hK, hN, hO, hlk, hbs⟩ := id X
  intro n
  induction n with
  | zero =>
    intro x1 x2 x3 x4 x5 M H locs ls hf hR hl
    exact absurd (show none = some _ from hf) (fun h => by cases h)
  | succ n ih =>
    intro x1 x2 x3 x4 x5 M H locs ls hf hR hl
    rw [fX2_insert_67] at hf
    refine lv_iload hx hb dX2_insert_67 (lv_at hl 5 rfl) ?_
    refine lv_iload hx hb dX2_insert_69 (lv_at hl 4 rfl) ?_
    refine lv_icmp_le (tgt := 128) hx hb dX2_insert_71 (by decide) (fun q71 => ?_) (fun q71 => ?_)
    · have hf := (br_if hf).1 q71
      exact hk128 hf hR (lv_sub hl [0, 1, 2, 3, 4] rfl)
    · have hf := (br_if hf).2 q71
      refine lv_aload_n hx hb dX2_insert_74 rfl (lv_at hl 0 rfl) ?_
      refine x_get hx hb hown hts hK hR kX2 (z_26 b) (j := 1) (by decide) fl_X2_11 (v := .ref (eB E + 27)) rfl dX2_insert_75 ?_
      refine lv_iload hx hb dX2_insert_78 (lv_at hl 5 rfl) ?_
      refine lv_aload_n hx hb dX2_insert_80 rfl (lv_at hl 0 rfl) ?_
      refine x_get hx hb hown hts hK hR kX2 (z_26 b) (j := 1) (by decide) fl_X2_11 (v := .ref (eB E + 27)) rfl dX2_insert_81 ?_
      refine lv_iload hx hb dX2_insert_84 (lv_at hl 5 rfl) ?_
      refine lv_iconst (v := 1) hx hb dX2_insert_86 (by decide) ?_
      refine lv_isub hx hb dX2_insert_87 ?_
      obtain ⟨g88, hf⟩ := br_g hf
      refine x_iald hx hb hK hR (z_27 b) g88 dX2_insert_88 ?_
      obtain ⟨g89, hf⟩ := br_g hf
      refine x_iast hx hb hK hR (z_27 b) g89 dX2_insert_89 (fun H locs hR => ?_)
      obtain ⟨M89, e89⟩ : ∃ y : Mem, y = (sI M 27 (ix x5) (M.1 27 (ix (x5 - (1 : Int32))))) := ⟨_, rfl⟩
      have hf := nx_at e89 hf
      have hR : Rl E (sh_ b) (nn b) s.heap M89 H locs := by rw [e89]; exact hR
      refine lv_aload_n hx hb dX2_insert_90 rfl (lv_at hl 0 rfl) ?_
      refine x_get hx hb hown hts hK hR kX2 (z_26 b) (j := 2) (by decide) fl_X2_15 (v := .ref (eB E + 28)) rfl dX2_insert_91 ?_
      refine lv_iload hx hb dX2_insert_94 (lv_at hl 5 rfl) ?_
      refine lv_aload_n hx hb dX2_insert_96 rfl (lv_at hl 0 rfl) ?_
      refine x_get hx hb hown hts hK hR kX2 (z_26 b) (j := 2) (by decide) fl_X2_15 (v := .ref (eB E + 28)) rfl dX2_insert_97 ?_
      refine lv_iload hx hb dX2_insert_100 (lv_at hl 5 rfl) ?_
      refine lv_iconst (v := 1) hx hb dX2_insert_102 (by decide) ?_
      refine lv_isub hx hb dX2_insert_103 ?_
      obtain ⟨g104, hf⟩ := br_g hf
      refine x_iald hx hb hK hR (z_28 b) g104 dX2_insert_104 ?_
      obtain ⟨g105, hf⟩ := br_g hf
      refine x_iast hx hb hK hR (z_28 b) g105 dX2_insert_105 (fun H locs hR => ?_)
      obtain ⟨M105, e105⟩ : ∃ y : Mem, y = (sI M89 28 (ix x5) (M89.1 28 (ix (x5 - (1 : Int32))))) := ⟨_, rfl⟩
      have hf := nx_at e105 hf
      have hR : Rl E (sh_ b) (nn b) s.heap M105 H locs := by rw [e105]; exact hR
      refine lv_aload_n hx hb dX2_insert_106 rfl (lv_at hl 0 rfl) ?_
      refine x_get hx hb hown hts hK hR kX2 (z_26 b) (j := 3) (by decide) fl_X2_18 (v := .ref (eB E + 29)) rfl dX2_insert_107 ?_
      refine lv_iload hx hb dX2_insert_110 (lv_at hl 5 rfl) ?_
      refine lv_aload_n hx hb dX2_insert_112 rfl (lv_at hl 0 rfl) ?_
      refine x_get hx hb hown hts hK hR kX2 (z_26 b) (j := 3) (by decide) fl_X2_18 (v := .ref (eB E + 29)) rfl dX2_insert_113 ?_
      refine lv_iload hx hb dX2_insert_116 (lv_at hl 5 rfl) ?_
      refine lv_iconst (v := 1) hx hb dX2_insert_118 (by decide) ?_
      refine lv_isub hx hb dX2_insert_119 ?_
      obtain ⟨g120, hf⟩ := br_g hf
      refine x_iald hx hb hK hR (z_29 b) g120 dX2_insert_120 ?_
      obtain ⟨g121, hf⟩ := br_g hf
      refine x_iast hx hb hK hR (z_29 b) g121 dX2_insert_121 (fun H locs hR => ?_)
      obtain ⟨M121, e121⟩ : ∃ y : Mem, y = (sI M105 29 (ix x5) (M105.1 29 (ix (x5 - (1 : Int32))))) := ⟨_, rfl⟩
      have hf := nx_at e121 hf
      have hR : Rl E (sh_ b) (nn b) s.heap M121 H locs := by rw [e121]; exact hR
      obtain ⟨v122, e122⟩ : ∃ y : Int32, y = (x5 + (-1 : Int32)) := ⟨_, rfl⟩
      have hf := nx_at e122 hf
      refine lv_iinc (v := v122) (lv' := [(5, .int v122), (0, .ref (eB E + 26)), (1, .int x1), (2, .int x2), (3, .int x3), (4, .int x4)]) hx hb dX2_insert_122 hl (k := 5) rfl (by rw [e122]; rfl) (by decide) rfl (fun ls hl => ?_)
      refine lv_goto (tgt := 67) hx hb dX2_insert_125 (by decide) ?_
      exact ih hf hR (lv_sub hl [1, 2, 3, 4, 5, 0] rfl)
set_option maxHeartbeats 4000000 in
set_option maxRecDepth 100000 in
theorem wX2_insert_128 {M1 : Mem} (X : CX E p s m args c meth cX2_insert 6 none RX2) : ∀ {x1 : Int32} {x2 : Int32} {x3 : Int32} {x4 : Int32} {M : Mem} {H : Heap} {locs : List Loc} {ls : Array Slot}, fX2_insert_128 x1 x2 x3 x4 M = some M1 → Rl E (sh_ b) (nn b) s.heap M H locs → lv_has ls 6 [(0, .ref (eB E + 26)), (1, .int x1), (2, .int x2), (3, .int x3), (4, .int x4)] → W p l e (rm 3 0 0) s m args below meth c H locs 0 0 (MQ below (qq E none (sh_ b) (nn b) M1) args s 0 0 (fr E)) (F0 m 128 ls []) := by
  obtain ⟨hx, hb, hr, hml, hown, hts, hK, hN, hO, hlk, hbs⟩ := id X
  intro x1 x2 x3 x4 M H locs ls hf hR hl
  unfold fX2_insert_128 at hf
  refine lv_aload_n hx hb dX2_insert_128 rfl (lv_at hl 0 rfl) ?_
  refine x_get hx hb hown hts hK hR kX2 (z_26 b) (j := 1) (by decide) fl_X2_11 (v := .ref (eB E + 27)) rfl dX2_insert_129 ?_
  refine lv_iload hx hb dX2_insert_132 (lv_at hl 4 rfl) ?_
  refine lv_iload_n hx hb dX2_insert_134 rfl (lv_at hl 1 rfl) ?_
  obtain ⟨g135, hf⟩ := br_g hf
  refine x_iast hx hb hK hR (z_27 b) g135 dX2_insert_135 (fun H locs hR => ?_)
  obtain ⟨M135, e135⟩ : ∃ y : Mem, y = (sI M 27 (ix x4) x1) := ⟨_, rfl⟩
  have hf := nx_at e135 hf
  have hR : Rl E (sh_ b) (nn b) s.heap M135 H locs := by rw [e135]; exact hR
  refine lv_aload_n hx hb dX2_insert_136 rfl (lv_at hl 0 rfl) ?_
  refine x_get hx hb hown hts hK hR kX2 (z_26 b) (j := 2) (by decide) fl_X2_15 (v := .ref (eB E + 28)) rfl dX2_insert_137 ?_
  refine lv_iload hx hb dX2_insert_140 (lv_at hl 4 rfl) ?_
  refine lv_iload_n hx hb dX2_insert_142 rfl (lv_at hl 2 rfl) ?_
  obtain ⟨g143, hf⟩ := br_g hf
  refine x_iast hx hb hK hR (z_28 b) g143 dX2_insert_143 (fun H locs hR => ?_)
  obtain ⟨M143, e143⟩ : ∃ y : Mem, y = (sI M135 28 (ix x4) x2) := ⟨_, rfl⟩
  have hf := nx_at e143 hf
  have hR : Rl E (sh_ b) (nn b) s.heap M143 H locs := by rw [e143]; exact hR
  refine lv_aload_n hx hb dX2_insert_144 rfl (lv_at hl 0 rfl) ?_
  refine x_get hx hb hown hts hK hR kX2 (z_26 b) (j := 3) (by decide) fl_X2_18 (v := .ref (eB E + 29)) rfl dX2_insert_145 ?_
  refine lv_iload hx hb dX2_insert_148 (lv_at hl 4 rfl) ?_
  refine lv_iload_n hx hb dX2_insert_150 rfl (lv_at hl 3 rfl) ?_
  obtain ⟨g151, hf⟩ := br_g hf
  refine x_iast hx hb hK hR (z_29 b) g151 dX2_insert_151 (fun H locs hR => ?_)
  obtain ⟨M151, e151⟩ : ∃ y : Mem, y = (sI M143 29 (ix x4) x3) := ⟨_, rfl⟩
  have hf := nx_at e151 hf
  have hR : Rl E (sh_ b) (nn b) s.heap M151 H locs := by rw [e151]; exact hR
  refine lv_aload_n hx hb dX2_insert_152 rfl (lv_at hl 0 rfl) ?_
  refine lv_dup hx hb dX2_insert_153 rfl ?_
  refine x_get hx hb hown hts hK hR kX2 (z_26 b) (j := 4) (by decide) fl_X2_32 (v := .int (M151.1 26 4)) rfl dX2_insert_154 ?_
  refine lv_iconst (v := 1) hx hb dX2_insert_157 (by decide) ?_
  refine lv_iadd hx hb dX2_insert_158 ?_
  refine x_puti hx hb hown hts hK hR kX2 (z_26 b) (j := 4) (by decide) fl_X2_32 rfl rfl rfl rfl dX2_insert_159 (fun H locs hR => ?_)
  obtain ⟨M159, e159⟩ : ∃ y : Mem, y = (sI M151 26 4 ((M151.1 26 4) + (1 : Int32))) := ⟨_, rfl⟩
  have hf := nx_at e159 hf
  have hR : Rl E (sh_ b) (nn b) s.heap M159 H locs := by rw [e159]; exact hR
  cases hf
  exact x_vret hx hb hr hlk hR dX2_insert_162
set_option maxHeartbeats 4000000 in
set_option maxRecDepth 100000 in
theorem wX2_insert_61 {M1 : Mem} (X : CX E p s m args c meth cX2_insert 6 none RX2) : ∀ {x1 : Int32} {x2 : Int32} {x3 : Int32} {x4 : Int32} {M : Mem} {H : Heap} {locs : List Loc} {ls : Array Slot}, fX2_insert_61 x1 x2 x3 x4 M = some M1 → Rl E (sh_ b) (nn b) s.heap M H locs → lv_has ls 6 [(0, .ref (eB E + 26)), (1, .int x1), (2, .int x2), (3, .int x3), (4, .int x4)] → W p l e (rm 3 0 0) s m args below meth c H locs 0 0 (MQ below (qq E none (sh_ b) (nn b) M1) args s 0 0 (fr E)) (F0 m 61 ls []) := by
  obtain ⟨hx, hb, hr, hml, hown, hts, hK, hN, hO, hlk, hbs⟩ := id X
  intro x1 x2 x3 x4 M H locs ls hf hR hl
  unfold fX2_insert_61 at hf
  refine lv_aload_n hx hb dX2_insert_61 rfl (lv_at hl 0 rfl) ?_
  refine x_get hx hb hown hts hK hR kX2 (z_26 b) (j := 4) (by decide) fl_X2_32 (v := .int (M.1 26 4)) rfl dX2_insert_62 ?_
  refine lv_topi (fun v65 e65 => ?_)
  have hf := nx_at e65 hf
  refine lv_istore (lv' := [(5, .int v65), (0, .ref (eB E + 26)), (1, .int x1), (2, .int x2), (3, .int x3), (4, .int x4)]) hx hb dX2_insert_65 hl (by decide) rfl (fun ls hl => ?_)
  exact wX2_insert_67 X (fun hf hR hl => wX2_insert_128 X hf hR hl) FU hf hR (lv_sub hl [1, 2, 3, 4, 5, 0] rfl)
set_option maxHeartbeats 4000000 in
set_option maxRecDepth 100000 in
theorem wX2_insert_30 {M1 : Mem} (X : CX E p s m args c meth cX2_insert 6 none RX2) : ∀ {x1 : Int32} {x2 : Int32} {x3 : Int32} {x4 : Int32} {M : Mem} {H : Heap} {locs : List Loc} {ls : Array Slot}, fX2_insert_30 x1 x2 x3 x4 M = some M1 → Rl E (sh_ b) (nn b) s.heap M H locs → lv_has ls 6 [(0, .ref (eB E + 26)), (1, .int x1), (2, .int x2), (3, .int x3), (4, .int x4)] → W p l e (rm 3 0 0) s m args below meth c H locs 0 0 (MQ below (qq E none (sh_ b) (nn b) M1) args s 0 0 (fr E)) (F0 m 30 ls []) := by
  obtain ⟨hx, hb, hr, hml, hown, hts, hK, hN, hO, hlk, hbs⟩ := id X
  intro x1 x2 x3 x4 M H locs ls hf hR hl
  unfold fX2_insert_30 at hf
  refine lv_aload_n hx hb dX2_insert_30 rfl (lv_at hl 0 rfl) ?_
  refine x_get hx hb hown hts hK hR kX2 (z_26 b) (j := 4) (by decide) fl_X2_32 (v := .int (M.1 26 4)) rfl dX2_insert_31 ?_
  refine lv_bipush (v := 105) hx hb dX2_insert_34 (by decide) ?_
  refine lv_icmp_ge (tgt := 60) hx hb dX2_insert_36 (by decide) (fun q36 => ?_) (fun q36 => ?_)
  · have hf := (br_if hf).1 q36
    exact wX2_insert_60 X hf hR (lv_sub hl [] rfl)
  · have hf := (br_if hf).2 q36
    refine lv_iload hx hb dX2_insert_39 (lv_at hl 4 rfl) ?_
    refine lv_aload_n hx hb dX2_insert_41 rfl (lv_at hl 0 rfl) ?_
    refine x_get hx hb hown hts hK hR kX2 (z_26 b) (j := 4) (by decide) fl_X2_32 (v := .int (M.1 26 4)) rfl dX2_insert_42 ?_
    refine lv_icmp_ge (tgt := 61) hx hb dX2_insert_45 (by decide) (fun q45 => ?_) (fun q45 => ?_)
    · have hf := (br_if hf).1 q45
      exact wX2_insert_61 X hf hR hl
    · have hf := (br_if hf).2 q45
      refine lv_aload_n hx hb dX2_insert_48 rfl (lv_at hl 0 rfl) ?_
      refine lv_iload hx hb dX2_insert_49 (lv_at hl 4 rfl) ?_
      refine lv_iload_n hx hb dX2_insert_51 rfl (lv_at hl 1 rfl) ?_
      refine lv_iload_n hx hb dX2_insert_52 rfl (lv_at hl 2 rfl) ?_
      refine lv_iload_n hx hb dX2_insert_53 rfl (lv_at hl 3 rfl) ?_
      obtain ⟨q54, c54, hf⟩ := br_b hf
      refine x_callV (k := 26) (As := [.int x4, .int x1, .int x2, .int x3]) (rest := []) (st1 := [.int q54]) X hR (ctX2_order c54) ml_X2_67 im_X2_order se_X2_order in_X2 co_X2_order yo_X2_order rfl kX2 (z_26 b) (rm_ok (by decide) (by decide)) rfl hl.1 rfl rfl (Nat.le_of_ble_eq_true rfl) dX2_insert_54 ⟨Nat.zero_le _, Nat.zero_le _⟩ (fun H locs hR => ?_)
      refine lv_if_ne (tgt := 61) hx hb dX2_insert_57 (by decide) (fun q57 => ?_) (fun q57 => ?_)
      · have hf := (br_if hf).2 q57
        exact wX2_insert_61 X hf hR hl
      · have hf := (br_if hf).1 q57
        exact wX2_insert_60 X hf hR (lv_sub hl [] rfl)
set_option maxHeartbeats 4000000 in
set_option maxRecDepth 100000 in
theorem wX2_insert_0 {M1 : Mem} (X : CX E p s m args c meth cX2_insert 6 none RX2) : ∀ {x1 : Int32} {x2 : Int32} {x3 : Int32} {M : Mem} {H : Heap} {locs : List Loc} {ls : Array Slot}, fX2_insert x1 x2 x3 M = some M1 → Rl E (sh_ b) (nn b) s.heap M H locs → lv_has ls 6 [(0, .ref (eB E + 26)), (1, .int x1), (2, .int x2), (3, .int x3)] → W p l e (rm 3 0 0) s m args below meth c H locs 0 0 (MQ below (qq E none (sh_ b) (nn b) M1) args s 0 0 (fr E)) (F0 m 0 ls []) := by
  obtain ⟨hx, hb, hr, hml, hown, hts, hK, hN, hO, hlk, hbs⟩ := id X
  intro x1 x2 x3 M H locs ls hf hR hl
  unfold fX2_insert at hf
  refine lv_iconst (v := 0) hx hb dX2_insert_0 (by decide) ?_
  refine lv_istore (lv' := [(4, .int (0 : Int32)), (0, .ref (eB E + 26)), (1, .int x1), (2, .int x2), (3, .int x3)]) hx hb dX2_insert_1 hl (by decide) rfl (fun ls hl => ?_)
  exact wX2_insert_3 X (fun hf hR hl => wX2_insert_30 X hf hR hl) FU hf hR (lv_sub hl [1, 2, 3, 4, 0] rfl)
theorem ctX2_insert {l : Launch} {E : Ge} {b : Bool} {M : Mem} {x1 : Int32} {x2 : Int32} {x3 : Int32} {M1 : Mem} (h : fX2_insert x1 x2 x3 M = some M1) : CT l E yX2_insert cX2_insert 6 none 3 0 0 [.ref (eB E + 26), .int x1, .int x2, .int x3] none (sh_ b) (nn b) M (sh_ b) (nn b) M1 := by
  refine met_of (by decide) (Nat.le_of_ble_eq_true rfl) ?_
  intro p e s m args below meth c X _ hR ls hl
  exact wX2_insert_0 X h hR hl
def fX2_addThrough_139 (M : Mem) : Option Mem := some M
def fX2_addThrough_70 (x1 : Int32) (x3 : Int32) (x4 : Int32) (x5 : Int32) (M : Mem) : Option Mem := (if x5 = 0 then some M else (if ¬ x5 = 0 then nx (x3 / x5) (fun v80 => (if ¬ x5 = 0 then nx (x4 / x5) (fun v87 => (if inb x1 15 = true then (if inb x1 15 = true then nx ((v80 * (M.1 2 (ix x1))) + (v87 * (M.1 3 (ix x1)))) (fun v114 => (fX2_isHalving M v80 v87 v114).bind (fun q123 => (if q123 = 0 then fX2_addThrough_139 M else (fX2_insert v80 v87 v114 M).bind (fun q136 => fX2_addThrough_139 q136)))) else none) else none)) else none)) else none))
def fX2_addThrough_65 (x1 : Int32) (x3 : Int32) (x4 : Int32) (x5 : Int32) (M : Mem) : Option Mem := nx (-x5) (fun v68 => fX2_addThrough_70 x1 x3 x4 v68 M)
def fX2_addThrough (x1 : Int32) (x2 : Int32) (M : Mem) : Option Mem := (if inb x2 15 = true then (if inb x1 15 = true then nx ((M.1 3 (ix x2)) - (M.1 3 (ix x1))) (fun v19 => (if inb x1 15 = true then (if inb x2 15 = true then nx ((M.1 2 (ix x1)) - (M.1 2 (ix x2))) (fun v39 => (fX10_commonPart M (v19.toInt64) (v39.toInt64)).bind (fun q46 => nx (q46.toInt32) (fun v50 => (if v19 < 0 then fX2_addThrough_65 x1 v19 v39 v50 M else (if v19 = 0 then (if 0 ≤ v39 then fX2_addThrough_70 x1 v19 v39 v50 M else fX2_addThrough_65 x1 v19 v39 v50 M) else fX2_addThrough_70 x1 v19 v39 v50 M))))) else none) else none)) else none) else none)
set_option maxHeartbeats 4000000 in
set_option maxRecDepth 100000 in
theorem wX2_addThrough_139 {M1 : Mem} (X : CX E p s m args c meth cX2_addThrough 9 none RX2) : ∀ {M : Mem} {H : Heap} {locs : List Loc} {ls : Array Slot}, fX2_addThrough_139 M = some M1 → Rl E (sh_ b) (nn b) s.heap M H locs → lv_has ls 9 [] → W p l e (rm 4 0 0) s m args below meth c H locs 0 0 (MQ below (qq E none (sh_ b) (nn b) M1) args s 0 0 (fr E)) (F0 m 139 ls []) := by
  obtain ⟨hx, hb, hr, hml, hown, hts, hK, hN, hO, hlk, hbs⟩ := id X
  intro M H locs ls hf hR hl
  unfold fX2_addThrough_139 at hf
  cases hf
  exact x_vret hx hb hr hlk hR dX2_addThrough_139
set_option maxHeartbeats 4000000 in
set_option maxRecDepth 100000 in
theorem wX2_addThrough_70 {M1 : Mem} (X : CX E p s m args c meth cX2_addThrough 9 none RX2) : ∀ {x1 : Int32} {x3 : Int32} {x4 : Int32} {x5 : Int32} {M : Mem} {H : Heap} {locs : List Loc} {ls : Array Slot}, fX2_addThrough_70 x1 x3 x4 x5 M = some M1 → Rl E (sh_ b) (nn b) s.heap M H locs → lv_has ls 9 [(0, .ref (eB E + 26)), (1, .int x1), (3, .int x3), (4, .int x4), (5, .int x5)] → W p l e (rm 4 0 0) s m args below meth c H locs 0 0 (MQ below (qq E none (sh_ b) (nn b) M1) args s 0 0 (fr E)) (F0 m 70 ls []) := by
  obtain ⟨hx, hb, hr, hml, hown, hts, hK, hN, hO, hlk, hbs⟩ := id X
  intro x1 x3 x4 x5 M H locs ls hf hR hl
  unfold fX2_addThrough_70 at hf
  refine lv_iload hx hb dX2_addThrough_70 (lv_at hl 4 rfl) ?_
  refine lv_if_ne (tgt := 76) hx hb dX2_addThrough_72 (by decide) (fun q72 => ?_) (fun q72 => ?_)
  · have hf := (br_if hf).2 q72
    refine lv_iload_n hx hb dX2_addThrough_76 rfl (lv_at hl 2 rfl) ?_
    refine lv_iload hx hb dX2_addThrough_77 (lv_at hl 4 rfl) ?_
    obtain ⟨g79, hf⟩ := br_g hf
    refine lv_idiv hx hb dX2_addThrough_79 g79 ?_
    refine lv_topi (fun v80 e80 => ?_)
    have hf := nx_at e80 hf
    refine lv_istore (lv' := [(6, .int v80), (0, .ref (eB E + 26)), (1, .int x1), (3, .int x3), (4, .int x4), (5, .int x5)]) hx hb dX2_addThrough_80 hl (by decide) rfl (fun ls hl => ?_)
    refine lv_iload hx hb dX2_addThrough_82 (lv_at hl 4 rfl) ?_
    refine lv_iload hx hb dX2_addThrough_84 (lv_at hl 5 rfl) ?_
    obtain ⟨g86, hf⟩ := br_g hf
    refine lv_idiv hx hb dX2_addThrough_86 g86 ?_
    refine lv_topi (fun v87 e87 => ?_)
    have hf := nx_at e87 hf
    refine lv_istore (lv' := [(7, .int v87), (6, .int v80), (0, .ref (eB E + 26)), (1, .int x1), (3, .int x3), (4, .int x4), (5, .int x5)]) hx hb dX2_addThrough_87 hl (by decide) rfl (fun ls hl => ?_)
    refine lv_iload hx hb dX2_addThrough_89 (lv_at hl 1 rfl) ?_
    refine lv_aload_n hx hb dX2_addThrough_91 rfl (lv_at hl 2 rfl) ?_
    refine x_get hx hb hown hts hK hR kX2 (z_26 b) (j := 0) (by decide) fl_X2_25 (v := .ref (eB E + 1)) rfl dX2_addThrough_92 ?_
    refine x_get hx hb hown hts hK hR kX8 (z_1 b) (j := 1) (by decide) fl_X2_45 (v := .ref (eB E + 2)) rfl dX2_addThrough_95 ?_
    refine lv_iload_n hx hb dX2_addThrough_98 rfl (lv_at hl 3 rfl) ?_
    obtain ⟨g99, hf⟩ := br_g hf
    refine x_iald hx hb hK hR (z_2 b) g99 dX2_addThrough_99 ?_
    refine lv_imul hx hb dX2_addThrough_100 ?_
    refine lv_iload hx hb dX2_addThrough_101 (lv_at hl 0 rfl) ?_
    refine lv_aload_n hx hb dX2_addThrough_103 rfl (lv_at hl 2 rfl) ?_
    refine x_get hx hb hown hts hK hR kX2 (z_26 b) (j := 0) (by decide) fl_X2_25 (v := .ref (eB E + 1)) rfl dX2_addThrough_104 ?_
    refine x_get hx hb hown hts hK hR kX8 (z_1 b) (j := 2) (by decide) fl_X2_42 (v := .ref (eB E + 3)) rfl dX2_addThrough_107 ?_
    refine lv_iload_n hx hb dX2_addThrough_110 rfl (lv_at hl 3 rfl) ?_
    obtain ⟨g111, hf⟩ := br_g hf
    refine x_iald hx hb hK hR (z_3 b) g111 dX2_addThrough_111 ?_
    refine lv_imul hx hb dX2_addThrough_112 ?_
    refine lv_iadd hx hb dX2_addThrough_113 ?_
    refine lv_topi (fun v114 e114 => ?_)
    have hf := nx_at e114 hf
    refine lv_istore (lv' := [(8, .int v114), (7, .int v87), (6, .int v80), (0, .ref (eB E + 26)), (1, .int x1), (3, .int x3), (4, .int x4), (5, .int x5)]) hx hb dX2_addThrough_114 hl (by decide) rfl (fun ls hl => ?_)
    refine lv_aload_n hx hb dX2_addThrough_116 rfl (lv_at hl 3 rfl) ?_
    refine lv_iload hx hb dX2_addThrough_117 (lv_at hl 2 rfl) ?_
    refine lv_iload hx hb dX2_addThrough_119 (lv_at hl 1 rfl) ?_
    refine lv_iload hx hb dX2_addThrough_121 (lv_at hl 0 rfl) ?_
    obtain ⟨q123, c123, hf⟩ := br_b hf
    refine x_callV (k := 26) (As := [.int v80, .int v87, .int v114]) (rest := []) (st1 := [.int q123]) X hR (ctX2_isHalving c123) ml_X2_52 im_X2_isHalving se_X2_isHalving in_X2 co_X2_isHalving yo_X2_isHalving rfl kX2 (z_26 b) (rm_ok (by decide) (by decide)) rfl hl.1 rfl rfl (Nat.le_of_ble_eq_true rfl) dX2_addThrough_123 ⟨Nat.zero_le _, Nat.zero_le _⟩ (fun H locs hR => ?_)
    refine lv_if_eq (tgt := 139) hx hb dX2_addThrough_126 (by decide) (fun q126 => ?_) (fun q126 => ?_)
    · have hf := (br_if hf).1 q126
      exact wX2_addThrough_139 X hf hR (lv_sub hl [] rfl)
    · have hf := (br_if hf).2 q126
      refine lv_aload_n hx hb dX2_addThrough_129 rfl (lv_at hl 3 rfl) ?_
      refine lv_iload hx hb dX2_addThrough_130 (lv_at hl 2 rfl) ?_
      refine lv_iload hx hb dX2_addThrough_132 (lv_at hl 1 rfl) ?_
      refine lv_iload hx hb dX2_addThrough_134 (lv_at hl 0 rfl) ?_
      obtain ⟨q136, c136, hf⟩ := br_b hf
      refine x_callV (k := 26) (As := [.int v80, .int v87, .int v114]) (rest := []) (st1 := []) X hR (ctX2_insert c136) ml_X2_56 im_X2_insert se_X2_insert in_X2 co_X2_insert yo_X2_insert rfl kX2 (z_26 b) (rm_ok (by decide) (by decide)) rfl hl.1 rfl rfl (Nat.le_of_ble_eq_true rfl) dX2_addThrough_136 ⟨Nat.zero_le _, Nat.zero_le _⟩ (fun H locs hR => ?_)
      exact wX2_addThrough_139 X hf hR (lv_sub hl [] rfl)
  · have hf := (br_if hf).1 q72
    cases hf
    exact x_vret hx hb hr hlk hR dX2_addThrough_75
set_option maxHeartbeats 4000000 in
set_option maxRecDepth 100000 in
theorem wX2_addThrough_65 {M1 : Mem} (X : CX E p s m args c meth cX2_addThrough 9 none RX2) : ∀ {x1 : Int32} {x3 : Int32} {x4 : Int32} {x5 : Int32} {M : Mem} {H : Heap} {locs : List Loc} {ls : Array Slot}, fX2_addThrough_65 x1 x3 x4 x5 M = some M1 → Rl E (sh_ b) (nn b) s.heap M H locs → lv_has ls 9 [(0, .ref (eB E + 26)), (1, .int x1), (3, .int x3), (4, .int x4), (5, .int x5)] → W p l e (rm 4 0 0) s m args below meth c H locs 0 0 (MQ below (qq E none (sh_ b) (nn b) M1) args s 0 0 (fr E)) (F0 m 65 ls []) := by
  obtain ⟨hx, hb, hr, hml, hown, hts, hK, hN, hO, hlk, hbs⟩ := id X
  intro x1 x3 x4 x5 M H locs ls hf hR hl
  unfold fX2_addThrough_65 at hf
  refine lv_iload hx hb dX2_addThrough_65 (lv_at hl 4 rfl) ?_
  refine lv_ineg hx hb dX2_addThrough_67 ?_
  refine lv_topi (fun v68 e68 => ?_)
  have hf := nx_at e68 hf
  refine lv_istore (lv' := [(5, .int v68), (0, .ref (eB E + 26)), (1, .int x1), (3, .int x3), (4, .int x4)]) hx hb dX2_addThrough_68 hl (by decide) rfl (fun ls hl => ?_)
  exact wX2_addThrough_70 X hf hR (lv_sub hl [1, 2, 3, 4, 0] rfl)
set_option maxHeartbeats 4000000 in
set_option maxRecDepth 100000 in
theorem wX2_addThrough_0 {M1 : Mem} (X : CX E p s m args c meth cX2_addThrough 9 none RX2) : ∀ {x1 : Int32} {x2 : Int32} {M : Mem} {H : Heap} {locs : List Loc} {ls : Array Slot}, fX2_addThrough x1 x2 M = some M1 → Rl E (sh_ b) (nn b) s.heap M H locs → lv_has ls 9 [(0, .ref (eB E + 26)), (1, .int x1), (2, .int x2)] → W p l e (rm 4 0 0) s m args below meth c H locs 0 0 (MQ below (qq E none (sh_ b) (nn b) M1) args s 0 0 (fr E)) (F0 m 0 ls []) := by
  obtain ⟨hx, hb, hr, hml, hown, hts, hK, hN, hO, hlk, hbs⟩ := id X
  intro x1 x2 M H locs ls hf hR hl
  unfold fX2_addThrough at hf
  refine lv_aload_n hx hb dX2_addThrough_0 rfl (lv_at hl 0 rfl) ?_
  refine x_get hx hb hown hts hK hR kX2 (z_26 b) (j := 0) (by decide) fl_X2_25 (v := .ref (eB E + 1)) rfl dX2_addThrough_1 ?_
  refine x_get hx hb hown hts hK hR kX8 (z_1 b) (j := 2) (by decide) fl_X2_42 (v := .ref (eB E + 3)) rfl dX2_addThrough_4 ?_
  refine lv_iload_n hx hb dX2_addThrough_7 rfl (lv_at hl 2 rfl) ?_
  obtain ⟨g8, hf⟩ := br_g hf
  refine x_iald hx hb hK hR (z_3 b) g8 dX2_addThrough_8 ?_
  refine lv_aload_n hx hb dX2_addThrough_9 rfl (lv_at hl 0 rfl) ?_
  refine x_get hx hb hown hts hK hR kX2 (z_26 b) (j := 0) (by decide) fl_X2_25 (v := .ref (eB E + 1)) rfl dX2_addThrough_10 ?_
  refine x_get hx hb hown hts hK hR kX8 (z_1 b) (j := 2) (by decide) fl_X2_42 (v := .ref (eB E + 3)) rfl dX2_addThrough_13 ?_
  refine lv_iload_n hx hb dX2_addThrough_16 rfl (lv_at hl 1 rfl) ?_
  obtain ⟨g17, hf⟩ := br_g hf
  refine x_iald hx hb hK hR (z_3 b) g17 dX2_addThrough_17 ?_
  refine lv_isub hx hb dX2_addThrough_18 ?_
  refine lv_topi (fun v19 e19 => ?_)
  have hf := nx_at e19 hf
  refine lv_istore_n (lv' := [(3, .int v19), (0, .ref (eB E + 26)), (1, .int x1), (2, .int x2)]) hx hb dX2_addThrough_19 rfl hl (by decide) rfl (fun ls hl => ?_)
  refine lv_aload_n hx hb dX2_addThrough_20 rfl (lv_at hl 1 rfl) ?_
  refine x_get hx hb hown hts hK hR kX2 (z_26 b) (j := 0) (by decide) fl_X2_25 (v := .ref (eB E + 1)) rfl dX2_addThrough_21 ?_
  refine x_get hx hb hown hts hK hR kX8 (z_1 b) (j := 1) (by decide) fl_X2_45 (v := .ref (eB E + 2)) rfl dX2_addThrough_24 ?_
  refine lv_iload_n hx hb dX2_addThrough_27 rfl (lv_at hl 2 rfl) ?_
  obtain ⟨g28, hf⟩ := br_g hf
  refine x_iald hx hb hK hR (z_2 b) g28 dX2_addThrough_28 ?_
  refine lv_aload_n hx hb dX2_addThrough_29 rfl (lv_at hl 1 rfl) ?_
  refine x_get hx hb hown hts hK hR kX2 (z_26 b) (j := 0) (by decide) fl_X2_25 (v := .ref (eB E + 1)) rfl dX2_addThrough_30 ?_
  refine x_get hx hb hown hts hK hR kX8 (z_1 b) (j := 1) (by decide) fl_X2_45 (v := .ref (eB E + 2)) rfl dX2_addThrough_33 ?_
  refine lv_iload_n hx hb dX2_addThrough_36 rfl (lv_at hl 3 rfl) ?_
  obtain ⟨g37, hf⟩ := br_g hf
  refine x_iald hx hb hK hR (z_2 b) g37 dX2_addThrough_37 ?_
  refine lv_isub hx hb dX2_addThrough_38 ?_
  refine lv_topi (fun v39 e39 => ?_)
  have hf := nx_at e39 hf
  refine lv_istore (lv' := [(4, .int v39), (3, .int v19), (0, .ref (eB E + 26)), (1, .int x1), (2, .int x2)]) hx hb dX2_addThrough_39 hl (by decide) rfl (fun ls hl => ?_)
  refine lv_iload_n hx hb dX2_addThrough_41 rfl (lv_at hl 1 rfl) ?_
  refine lv_i2l (v := v19.toInt64) hx hb dX2_addThrough_42 rfl ?_
  refine lv_iload hx hb dX2_addThrough_43 (lv_at hl 0 rfl) ?_
  refine lv_i2l (v := v39.toInt64) hx hb dX2_addThrough_45 rfl ?_
  obtain ⟨q46, c46, hf⟩ := br_b hf
  refine x_callSN (As := [.long v19.toInt64, .long v39.toInt64]) (rest := []) (st1 := [.long q46]) X hR (ctX10_commonPart c46) (List.mem_of_getElem? (i := 3) rfl) st_X10_commonPart in_X10 co_X10_commonPart yo_X10_commonPart (rm_ok (by decide) (by decide)) rfl hl.1 rfl rfl (Nat.le_of_ble_eq_true rfl) dX2_addThrough_46 ⟨Nat.zero_le _, Nat.zero_le _⟩ (fun H locs hR => ?_)
  refine lv_l2i (v := q46.toInt32) hx hb dX2_addThrough_49 rfl ?_
  refine lv_topi (fun v50 e50 => ?_)
  have hf := nx_at e50 hf
  refine lv_istore (lv' := [(5, .int v50), (4, .int v39), (3, .int v19), (0, .ref (eB E + 26)), (1, .int x1), (2, .int x2)]) hx hb dX2_addThrough_50 hl (by decide) rfl (fun ls hl => ?_)
  refine lv_iload_n hx hb dX2_addThrough_52 rfl (lv_at hl 2 rfl) ?_
  refine lv_if_lt (tgt := 65) hx hb dX2_addThrough_53 (by decide) (fun q53 => ?_) (fun q53 => ?_)
  · have hf := (br_if hf).1 q53
    exact wX2_addThrough_65 X hf hR (lv_sub hl [3, 4, 2, 1, 0] rfl)
  · have hf := (br_if hf).2 q53
    refine lv_iload_n hx hb dX2_addThrough_56 rfl (lv_at hl 2 rfl) ?_
    refine lv_if_ne (tgt := 70) hx hb dX2_addThrough_57 (by decide) (fun q57 => ?_) (fun q57 => ?_)
    · have hf := (br_if hf).2 q57
      exact wX2_addThrough_70 X hf hR (lv_sub hl [3, 4, 2, 1, 0] rfl)
    · have hf := (br_if hf).1 q57
      refine lv_iload hx hb dX2_addThrough_60 (lv_at hl 1 rfl) ?_
      refine lv_if_ge (tgt := 70) hx hb dX2_addThrough_62 (by decide) (fun q62 => ?_) (fun q62 => ?_)
      · have hf := (br_if hf).1 q62
        exact wX2_addThrough_70 X hf hR (lv_sub hl [3, 4, 2, 1, 0] rfl)
      · have hf := (br_if hf).2 q62
        exact wX2_addThrough_65 X hf hR (lv_sub hl [3, 4, 2, 1, 0] rfl)
theorem ctX2_addThrough {l : Launch} {E : Ge} {b : Bool} {M : Mem} {x1 : Int32} {x2 : Int32} {M1 : Mem} (h : fX2_addThrough x1 x2 M = some M1) : CT l E yX2_addThrough cX2_addThrough 9 none 4 0 0 [.ref (eB E + 26), .int x1, .int x2] none (sh_ b) (nn b) M (sh_ b) (nn b) M1 := by
  refine met_of (by decide) (Nat.le_of_ble_eq_true rfl) ?_
  intro p e s m args below meth c X _ hR ls hl
  exact wX2_addThrough_0 X h hR hl
def fX2_crossingX (M : Mem) (x1 : Int32) (x2 : Int32) : Option Int64 := (if inb x1 105 = true then (if inb x2 105 = true then (if inb x2 105 = true then (if inb x1 105 = true then some (((M.1 29 (ix x1)).toInt64 * (M.1 28 (ix x2)).toInt64) - ((M.1 29 (ix x2)).toInt64 * (M.1 28 (ix x1)).toInt64)) else none) else none) else none) else none)
set_option maxHeartbeats 4000000 in
set_option maxRecDepth 100000 in
theorem wX2_crossingX_0 {r : Int64} {M : Mem} (X : CX E p s m args c meth cX2_crossingX 3 (some .long) RX2) : ∀ {x1 : Int32} {x2 : Int32} {H : Heap} {locs : List Loc} {ls : Array Slot}, fX2_crossingX M x1 x2 = some r → Rl E (sh_ b) (nn b) s.heap M H locs → lv_has ls 3 [(0, .ref (eB E + 26)), (1, .int x1), (2, .int x2)] → W p l e (rm 1 0 0) s m args below meth c H locs 0 0 (MQ below (qq E (some (.long r)) (sh_ b) (nn b) M) args s 0 0 (fr E)) (F0 m 0 ls []) := by
  obtain ⟨hx, hb, hr, hml, hown, hts, hK, hN, hO, hlk, hbs⟩ := id X
  intro x1 x2 H locs ls hf hR hl
  unfold fX2_crossingX at hf
  refine lv_aload_n hx hb dX2_crossingX_0 rfl (lv_at hl 0 rfl) ?_
  refine x_get hx hb hown hts hK hR kX2 (z_26 b) (j := 3) (by decide) fl_X2_18 (v := .ref (eB E + 29)) rfl dX2_crossingX_1 ?_
  refine lv_iload_n hx hb dX2_crossingX_4 rfl (lv_at hl 1 rfl) ?_
  obtain ⟨g5, hf⟩ := br_g hf
  refine x_iald hx hb hK hR (z_29 b) g5 dX2_crossingX_5 ?_
  refine lv_i2l (v := (M.1 29 (ix x1)).toInt64) hx hb dX2_crossingX_6 rfl ?_
  refine lv_aload_n hx hb dX2_crossingX_7 rfl (lv_at hl 0 rfl) ?_
  refine x_get hx hb hown hts hK hR kX2 (z_26 b) (j := 2) (by decide) fl_X2_15 (v := .ref (eB E + 28)) rfl dX2_crossingX_8 ?_
  refine lv_iload_n hx hb dX2_crossingX_11 rfl (lv_at hl 2 rfl) ?_
  obtain ⟨g12, hf⟩ := br_g hf
  refine x_iald hx hb hK hR (z_28 b) g12 dX2_crossingX_12 ?_
  refine lv_i2l (v := (M.1 28 (ix x2)).toInt64) hx hb dX2_crossingX_13 rfl ?_
  refine lv_lmul hx hb dX2_crossingX_14 ?_
  refine lv_aload_n hx hb dX2_crossingX_15 rfl (lv_at hl 0 rfl) ?_
  refine x_get hx hb hown hts hK hR kX2 (z_26 b) (j := 3) (by decide) fl_X2_18 (v := .ref (eB E + 29)) rfl dX2_crossingX_16 ?_
  refine lv_iload_n hx hb dX2_crossingX_19 rfl (lv_at hl 2 rfl) ?_
  obtain ⟨g20, hf⟩ := br_g hf
  refine x_iald hx hb hK hR (z_29 b) g20 dX2_crossingX_20 ?_
  refine lv_i2l (v := (M.1 29 (ix x2)).toInt64) hx hb dX2_crossingX_21 rfl ?_
  refine lv_aload_n hx hb dX2_crossingX_22 rfl (lv_at hl 0 rfl) ?_
  refine x_get hx hb hown hts hK hR kX2 (z_26 b) (j := 2) (by decide) fl_X2_15 (v := .ref (eB E + 28)) rfl dX2_crossingX_23 ?_
  refine lv_iload_n hx hb dX2_crossingX_26 rfl (lv_at hl 1 rfl) ?_
  obtain ⟨g27, hf⟩ := br_g hf
  refine x_iald hx hb hK hR (z_28 b) g27 dX2_crossingX_27 ?_
  refine lv_i2l (v := (M.1 28 (ix x1)).toInt64) hx hb dX2_crossingX_28 rfl ?_
  refine lv_lmul hx hb dX2_crossingX_29 ?_
  refine lv_lsub hx hb dX2_crossingX_30 ?_
  cases hf
  exact x_lret hx hb hr hlk hR dX2_crossingX_31
theorem ctX2_crossingX {l : Launch} {E : Ge} {b : Bool} {M : Mem} {x1 : Int32} {x2 : Int32} {r : Int64} (h : fX2_crossingX M x1 x2 = some r) : CT l E yX2_crossingX cX2_crossingX 3 (some .long) 1 0 0 [.ref (eB E + 26), .int x1, .int x2] (some (.long r)) (sh_ b) (nn b) M (sh_ b) (nn b) M := by
  refine met_of (by decide) (Nat.le_of_ble_eq_true rfl) ?_
  intro p e s m args below meth c X _ hR ls hl
  exact wX2_crossingX_0 X h hR hl
def fX2_crossingY (M : Mem) (x1 : Int32) (x2 : Int32) : Option Int64 := (if inb x1 105 = true then (if inb x2 105 = true then (if inb x2 105 = true then (if inb x1 105 = true then some (((M.1 27 (ix x1)).toInt64 * (M.1 29 (ix x2)).toInt64) - ((M.1 27 (ix x2)).toInt64 * (M.1 29 (ix x1)).toInt64)) else none) else none) else none) else none)
set_option maxHeartbeats 4000000 in
set_option maxRecDepth 100000 in
theorem wX2_crossingY_0 {r : Int64} {M : Mem} (X : CX E p s m args c meth cX2_crossingY 3 (some .long) RX2) : ∀ {x1 : Int32} {x2 : Int32} {H : Heap} {locs : List Loc} {ls : Array Slot}, fX2_crossingY M x1 x2 = some r → Rl E (sh_ b) (nn b) s.heap M H locs → lv_has ls 3 [(0, .ref (eB E + 26)), (1, .int x1), (2, .int x2)] → W p l e (rm 1 0 0) s m args below meth c H locs 0 0 (MQ below (qq E (some (.long r)) (sh_ b) (nn b) M) args s 0 0 (fr E)) (F0 m 0 ls []) := by
  obtain ⟨hx, hb, hr, hml, hown, hts, hK, hN, hO, hlk, hbs⟩ := id X
  intro x1 x2 H locs ls hf hR hl
  unfold fX2_crossingY at hf
  refine lv_aload_n hx hb dX2_crossingY_0 rfl (lv_at hl 0 rfl) ?_
  refine x_get hx hb hown hts hK hR kX2 (z_26 b) (j := 1) (by decide) fl_X2_11 (v := .ref (eB E + 27)) rfl dX2_crossingY_1 ?_
  refine lv_iload_n hx hb dX2_crossingY_4 rfl (lv_at hl 1 rfl) ?_
  obtain ⟨g5, hf⟩ := br_g hf
  refine x_iald hx hb hK hR (z_27 b) g5 dX2_crossingY_5 ?_
  refine lv_i2l (v := (M.1 27 (ix x1)).toInt64) hx hb dX2_crossingY_6 rfl ?_
  refine lv_aload_n hx hb dX2_crossingY_7 rfl (lv_at hl 0 rfl) ?_
  refine x_get hx hb hown hts hK hR kX2 (z_26 b) (j := 3) (by decide) fl_X2_18 (v := .ref (eB E + 29)) rfl dX2_crossingY_8 ?_
  refine lv_iload_n hx hb dX2_crossingY_11 rfl (lv_at hl 2 rfl) ?_
  obtain ⟨g12, hf⟩ := br_g hf
  refine x_iald hx hb hK hR (z_29 b) g12 dX2_crossingY_12 ?_
  refine lv_i2l (v := (M.1 29 (ix x2)).toInt64) hx hb dX2_crossingY_13 rfl ?_
  refine lv_lmul hx hb dX2_crossingY_14 ?_
  refine lv_aload_n hx hb dX2_crossingY_15 rfl (lv_at hl 0 rfl) ?_
  refine x_get hx hb hown hts hK hR kX2 (z_26 b) (j := 1) (by decide) fl_X2_11 (v := .ref (eB E + 27)) rfl dX2_crossingY_16 ?_
  refine lv_iload_n hx hb dX2_crossingY_19 rfl (lv_at hl 2 rfl) ?_
  obtain ⟨g20, hf⟩ := br_g hf
  refine x_iald hx hb hK hR (z_27 b) g20 dX2_crossingY_20 ?_
  refine lv_i2l (v := (M.1 27 (ix x2)).toInt64) hx hb dX2_crossingY_21 rfl ?_
  refine lv_aload_n hx hb dX2_crossingY_22 rfl (lv_at hl 0 rfl) ?_
  refine x_get hx hb hown hts hK hR kX2 (z_26 b) (j := 3) (by decide) fl_X2_18 (v := .ref (eB E + 29)) rfl dX2_crossingY_23 ?_
  refine lv_iload_n hx hb dX2_crossingY_26 rfl (lv_at hl 1 rfl) ?_
  obtain ⟨g27, hf⟩ := br_g hf
  refine x_iald hx hb hK hR (z_29 b) g27 dX2_crossingY_27 ?_
  refine lv_i2l (v := (M.1 29 (ix x1)).toInt64) hx hb dX2_crossingY_28 rfl ?_
  refine lv_lmul hx hb dX2_crossingY_29 ?_
  refine lv_lsub hx hb dX2_crossingY_30 ?_
  cases hf
  exact x_lret hx hb hr hlk hR dX2_crossingY_31
theorem ctX2_crossingY {l : Launch} {E : Ge} {b : Bool} {M : Mem} {x1 : Int32} {x2 : Int32} {r : Int64} (h : fX2_crossingY M x1 x2 = some r) : CT l E yX2_crossingY cX2_crossingY 3 (some .long) 1 0 0 [.ref (eB E + 26), .int x1, .int x2] (some (.long r)) (sh_ b) (nn b) M (sh_ b) (nn b) M := by
  refine met_of (by decide) (Nat.le_of_ble_eq_true rfl) ?_
  intro p e s m args below meth c X _ hR ls hl
  exact wX2_crossingY_0 X h hR hl
def fX2_refresh_46 (k63 : Int32 → Mem → Option Mem) : Nat → Int32 → Int32 → Mem → Option Mem
  | 0, _, _, _ => none
  | n + 1, x1, x2, M => (if x1 ≤ x2 then k63 x1 M else (fX2_addThrough x1 x2 M).bind (fun q54 => nx (x2 + (1 : Int32)) (fun v57 => fX2_refresh_46 k63 n x1 v57 q54)))
def fX2_refresh_63 (k33 : Int32 → Mem → Option Mem) (k69 : Mem → Option Mem) (x1 : Int32) (M : Mem) : Option Mem := nx (x1 + (1 : Int32)) (fun v63 => k33 v63 M)
def fX2_refresh_33 (k69 : Mem → Option Mem) : Nat → Int32 → Mem → Option Mem
  | 0, _, _ => none
  | n + 1, x1, M => (if (M.1 1 0) ≤ x1 then k69 M else fX2_refresh_46 (fX2_refresh_63 (fX2_refresh_33 k69 n) k69) FU x1 (0 : Int32) M)
def fX2_refresh_69 (M : Mem) : Option Mem := some M
def fX2_refresh (M : Mem) : Option Mem := (if (M.1 26 5) = (M.1 1 14) then some M else nx (sI M 26 5 (M.1 1 14)) (fun M23 => nx (sI M23 26 4 (0 : Int32)) (fun M28 => fX2_refresh_33 fX2_refresh_69 FU (0 : Int32) M28)))
set_option maxHeartbeats 4000000 in
set_option maxRecDepth 100000 in
theorem wX2_refresh_46 {M1 : Mem} {k63 : Int32 → Mem → Option Mem} (X : CX E p s m args c meth cX2_refresh 3 none RX2) (hk63 : ∀ {x1 : Int32} {M : Mem} {H : Heap} {locs : List Loc} {ls : Array Slot}, k63 x1 M = some M1 → Rl E (sh_ b) (nn b) s.heap M H locs → lv_has ls 3 [(0, .ref (eB E + 26)), (1, .int x1)] → W p l e (rm 5 0 0) s m args below meth c H locs 0 0 (MQ below (qq E none (sh_ b) (nn b) M1) args s 0 0 (fr E)) (F0 m 63 ls [])) : ∀ (n : Nat) {x1 : Int32} {x2 : Int32} {M : Mem} {H : Heap} {locs : List Loc} {ls : Array Slot}, fX2_refresh_46 k63 n x1 x2 M = some M1 → Rl E (sh_ b) (nn b) s.heap M H locs → lv_has ls 3 [(0, .ref (eB E + 26)), (1, .int x1), (2, .int x2)] → W p l e (rm 5 0 0) s m args below meth c H locs 0 0 (MQ below (qq E none (sh_ b) (nn b) M1) args s 0 0 (fr E)) (F0 m 46 ls []) := by
  obtain ⟨hx, hb, hr, hml, hown, hts, hK, hN, hO, hlk, hbs⟩ := id X
  intro n
  induction n with
  | zero =>
    intro x1 x2 M H locs ls hf hR hl
    exact absurd (show none = some _ from hf) (fun h => by cases h)
  | succ n ih =>
    intro x1 x2 M H locs ls hf hR hl
    rw [fX2_refresh_46] at hf
    refine lv_iload_n hx hb dX2_refresh_46 rfl (lv_at hl 2 rfl) ?_
    refine lv_iload_n hx hb dX2_refresh_47 rfl (lv_at hl 1 rfl) ?_
    refine lv_icmp_ge (tgt := 63) hx hb dX2_refresh_48 (by decide) (fun q48 => ?_) (fun q48 => ?_)
    · have hf := (br_if hf).1 q48
      exact hk63 hf hR (lv_sub hl [0, 1] rfl)
    · have hf := (br_if hf).2 q48
      refine lv_aload_n hx hb dX2_refresh_51 rfl (lv_at hl 0 rfl) ?_
      refine lv_iload_n hx hb dX2_refresh_52 rfl (lv_at hl 1 rfl) ?_
      refine lv_iload_n hx hb dX2_refresh_53 rfl (lv_at hl 2 rfl) ?_
      obtain ⟨q54, c54, hf⟩ := br_b hf
      refine x_callV (k := 26) (As := [.int x1, .int x2]) (rest := []) (st1 := []) X hR (ctX2_addThrough c54) ml_X2_38 im_X2_addThrough se_X2_addThrough in_X2 co_X2_addThrough yo_X2_addThrough rfl kX2 (z_26 b) (rm_ok (by decide) (by decide)) rfl hl.1 rfl rfl (Nat.le_of_ble_eq_true rfl) dX2_refresh_54 ⟨Nat.zero_le _, Nat.zero_le _⟩ (fun H locs hR => ?_)
      obtain ⟨v57, e57⟩ : ∃ y : Int32, y = (x2 + (1 : Int32)) := ⟨_, rfl⟩
      have hf := nx_at e57 hf
      refine lv_iinc (v := v57) (lv' := [(2, .int v57), (0, .ref (eB E + 26)), (1, .int x1)]) hx hb dX2_refresh_57 hl (k := 2) rfl (by rw [e57]; rfl) (by decide) rfl (fun ls hl => ?_)
      refine lv_goto (tgt := 46) hx hb dX2_refresh_60 (by decide) ?_
      exact ih hf hR (lv_sub hl [1, 2, 0] rfl)
set_option maxHeartbeats 4000000 in
set_option maxRecDepth 100000 in
theorem wX2_refresh_63 {M1 : Mem} {k33 : Int32 → Mem → Option Mem} {k69 : Mem → Option Mem} (X : CX E p s m args c meth cX2_refresh 3 none RX2) (hk33 : ∀ {x1 : Int32} {M : Mem} {H : Heap} {locs : List Loc} {ls : Array Slot}, k33 x1 M = some M1 → Rl E (sh_ b) (nn b) s.heap M H locs → lv_has ls 3 [(0, .ref (eB E + 26)), (1, .int x1)] → W p l e (rm 5 0 0) s m args below meth c H locs 0 0 (MQ below (qq E none (sh_ b) (nn b) M1) args s 0 0 (fr E)) (F0 m 33 ls [])) (hk69 : ∀ {M : Mem} {H : Heap} {locs : List Loc} {ls : Array Slot}, k69 M = some M1 → Rl E (sh_ b) (nn b) s.heap M H locs → lv_has ls 3 [] → W p l e (rm 5 0 0) s m args below meth c H locs 0 0 (MQ below (qq E none (sh_ b) (nn b) M1) args s 0 0 (fr E)) (F0 m 69 ls [])) : ∀ {x1 : Int32} {M : Mem} {H : Heap} {locs : List Loc} {ls : Array Slot}, fX2_refresh_63 k33 k69 x1 M = some M1 → Rl E (sh_ b) (nn b) s.heap M H locs → lv_has ls 3 [(0, .ref (eB E + 26)), (1, .int x1)] → W p l e (rm 5 0 0) s m args below meth c H locs 0 0 (MQ below (qq E none (sh_ b) (nn b) M1) args s 0 0 (fr E)) (F0 m 63 ls []) := by
  obtain ⟨hx, hb, hr, hml, hown, hts, hK, hN, hO, hlk, hbs⟩ := id X
  intro x1 M H locs ls hf hR hl
  unfold fX2_refresh_63 at hf
  obtain ⟨v63, e63⟩ : ∃ y : Int32, y = (x1 + (1 : Int32)) := ⟨_, rfl⟩
  have hf := nx_at e63 hf
  refine lv_iinc (v := v63) (lv' := [(1, .int v63), (0, .ref (eB E + 26))]) hx hb dX2_refresh_63 hl (k := 1) rfl (by rw [e63]; rfl) (by decide) rfl (fun ls hl => ?_)
  refine lv_goto (tgt := 33) hx hb dX2_refresh_66 (by decide) ?_
  exact hk33 hf hR (lv_sub hl [1, 0] rfl)
set_option maxHeartbeats 4000000 in
set_option maxRecDepth 100000 in
theorem wX2_refresh_33 {M1 : Mem} {k69 : Mem → Option Mem} (X : CX E p s m args c meth cX2_refresh 3 none RX2) (hk69 : ∀ {M : Mem} {H : Heap} {locs : List Loc} {ls : Array Slot}, k69 M = some M1 → Rl E (sh_ b) (nn b) s.heap M H locs → lv_has ls 3 [] → W p l e (rm 5 0 0) s m args below meth c H locs 0 0 (MQ below (qq E none (sh_ b) (nn b) M1) args s 0 0 (fr E)) (F0 m 69 ls [])) : ∀ (n : Nat) {x1 : Int32} {M : Mem} {H : Heap} {locs : List Loc} {ls : Array Slot}, fX2_refresh_33 k69 n x1 M = some M1 → Rl E (sh_ b) (nn b) s.heap M H locs → lv_has ls 3 [(0, .ref (eB E + 26)), (1, .int x1)] → W p l e (rm 5 0 0) s m args below meth c H locs 0 0 (MQ below (qq E none (sh_ b) (nn b) M1) args s 0 0 (fr E)) (F0 m 33 ls []) := by
  obtain ⟨hx, hb, hr, hml, hown, hts, hK, hN, hO, hlk, hbs⟩ := id X
  intro n
  induction n with
  | zero =>
    intro x1 M H locs ls hf hR hl
    exact absurd (show none = some _ from hf) (fun h => by cases h)
  | succ n ih =>
    intro x1 M H locs ls hf hR hl
    rw [fX2_refresh_33] at hf
    refine lv_iload_n hx hb dX2_refresh_33 rfl (lv_at hl 1 rfl) ?_
    refine lv_aload_n hx hb dX2_refresh_34 rfl (lv_at hl 0 rfl) ?_
    refine x_get hx hb hown hts hK hR kX2 (z_26 b) (j := 0) (by decide) fl_X2_25 (v := .ref (eB E + 1)) rfl dX2_refresh_35 ?_
    refine x_get hx hb hown hts hK hR kX8 (z_1 b) (j := 0) (by decide) fl_X2_35 (v := .int (M.1 1 0)) rfl dX2_refresh_38 ?_
    refine lv_icmp_ge (tgt := 69) hx hb dX2_refresh_41 (by decide) (fun q41 => ?_) (fun q41 => ?_)
    · have hf := (br_if hf).1 q41
      exact hk69 hf hR (lv_sub hl [] rfl)
    · have hf := (br_if hf).2 q41
      refine lv_iconst (v := 0) hx hb dX2_refresh_44 (by decide) ?_
      refine lv_istore_n (lv' := [(2, .int (0 : Int32)), (0, .ref (eB E + 26)), (1, .int x1)]) hx hb dX2_refresh_45 rfl hl (by decide) rfl (fun ls hl => ?_)
      exact wX2_refresh_46 X (fun hf hR hl => wX2_refresh_63 X (fun hf hR hl => ih hf hR hl) (fun hf hR hl => hk69 hf hR hl) hf hR hl) FU hf hR (lv_sub hl [1, 2, 0] rfl)
set_option maxHeartbeats 4000000 in
set_option maxRecDepth 100000 in
theorem wX2_refresh_69 {M1 : Mem} (X : CX E p s m args c meth cX2_refresh 3 none RX2) : ∀ {M : Mem} {H : Heap} {locs : List Loc} {ls : Array Slot}, fX2_refresh_69 M = some M1 → Rl E (sh_ b) (nn b) s.heap M H locs → lv_has ls 3 [] → W p l e (rm 5 0 0) s m args below meth c H locs 0 0 (MQ below (qq E none (sh_ b) (nn b) M1) args s 0 0 (fr E)) (F0 m 69 ls []) := by
  obtain ⟨hx, hb, hr, hml, hown, hts, hK, hN, hO, hlk, hbs⟩ := id X
  intro M H locs ls hf hR hl
  unfold fX2_refresh_69 at hf
  cases hf
  exact x_vret hx hb hr hlk hR dX2_refresh_69
set_option maxHeartbeats 4000000 in
set_option maxRecDepth 100000 in
theorem wX2_refresh_0 {M1 : Mem} (X : CX E p s m args c meth cX2_refresh 3 none RX2) : ∀ {M : Mem} {H : Heap} {locs : List Loc} {ls : Array Slot}, fX2_refresh M = some M1 → Rl E (sh_ b) (nn b) s.heap M H locs → lv_has ls 3 [(0, .ref (eB E + 26))] → W p l e (rm 5 0 0) s m args below meth c H locs 0 0 (MQ below (qq E none (sh_ b) (nn b) M1) args s 0 0 (fr E)) (F0 m 0 ls []) := by
  obtain ⟨hx, hb, hr, hml, hown, hts, hK, hN, hO, hlk, hbs⟩ := id X
  intro M H locs ls hf hR hl
  unfold fX2_refresh at hf
  refine lv_aload_n hx hb dX2_refresh_0 rfl (lv_at hl 0 rfl) ?_
  refine x_get hx hb hown hts hK hR kX2 (z_26 b) (j := 5) (by decide) fl_X2_21 (v := .int (M.1 26 5)) rfl dX2_refresh_1 ?_
  refine lv_aload_n hx hb dX2_refresh_4 rfl (lv_at hl 0 rfl) ?_
  refine x_get hx hb hown hts hK hR kX2 (z_26 b) (j := 0) (by decide) fl_X2_25 (v := .ref (eB E + 1)) rfl dX2_refresh_5 ?_
  refine x_get hx hb hown hts hK hR kX8 (z_1 b) (j := 14) (by decide) fl_X2_29 (v := .int (M.1 1 14)) rfl dX2_refresh_8 ?_
  refine lv_icmp_ne (tgt := 15) hx hb dX2_refresh_11 (by decide) (fun q11 => ?_) (fun q11 => ?_)
  · have hf := (br_if hf).2 q11
    refine lv_aload_n hx hb dX2_refresh_15 rfl (lv_at hl 0 rfl) ?_
    refine lv_aload_n hx hb dX2_refresh_16 rfl (lv_at hl 0 rfl) ?_
    refine x_get hx hb hown hts hK hR kX2 (z_26 b) (j := 0) (by decide) fl_X2_25 (v := .ref (eB E + 1)) rfl dX2_refresh_17 ?_
    refine x_get hx hb hown hts hK hR kX8 (z_1 b) (j := 14) (by decide) fl_X2_29 (v := .int (M.1 1 14)) rfl dX2_refresh_20 ?_
    refine x_puti hx hb hown hts hK hR kX2 (z_26 b) (j := 5) (by decide) fl_X2_21 rfl rfl rfl rfl dX2_refresh_23 (fun H locs hR => ?_)
    obtain ⟨M23, e23⟩ : ∃ y : Mem, y = (sI M 26 5 (M.1 1 14)) := ⟨_, rfl⟩
    have hf := nx_at e23 hf
    have hR : Rl E (sh_ b) (nn b) s.heap M23 H locs := by rw [e23]; exact hR
    refine lv_aload_n hx hb dX2_refresh_26 rfl (lv_at hl 0 rfl) ?_
    refine lv_iconst (v := 0) hx hb dX2_refresh_27 (by decide) ?_
    refine x_puti hx hb hown hts hK hR kX2 (z_26 b) (j := 4) (by decide) fl_X2_32 rfl rfl rfl rfl dX2_refresh_28 (fun H locs hR => ?_)
    obtain ⟨M28, e28⟩ : ∃ y : Mem, y = (sI M23 26 4 (0 : Int32)) := ⟨_, rfl⟩
    have hf := nx_at e28 hf
    have hR : Rl E (sh_ b) (nn b) s.heap M28 H locs := by rw [e28]; exact hR
    refine lv_iconst (v := 0) hx hb dX2_refresh_31 (by decide) ?_
    refine lv_istore_n (lv' := [(1, .int (0 : Int32)), (0, .ref (eB E + 26))]) hx hb dX2_refresh_32 rfl hl (by decide) rfl (fun ls hl => ?_)
    exact wX2_refresh_33 X (fun hf hR hl => wX2_refresh_69 X hf hR hl) FU hf hR (lv_sub hl [1, 0] rfl)
  · have hf := (br_if hf).1 q11
    cases hf
    exact x_vret hx hb hr hlk hR dX2_refresh_14
theorem ctX2_refresh {l : Launch} {E : Ge} {b : Bool} {M : Mem} {M1 : Mem} (h : fX2_refresh M = some M1) : CT l E yX2_refresh cX2_refresh 3 none 5 0 0 [.ref (eB E + 26)] none (sh_ b) (nn b) M (sh_ b) (nn b) M1 := by
  refine met_of (by decide) (Nat.le_of_ble_eq_true rfl) ?_
  intro p e s m args below meth c X _ hR ls hl
  exact wX2_refresh_0 X h hR hl
def fX2_turnBetween (M : Mem) (x1 : Int32) (x2 : Int32) : Option Int64 := (if inb x1 105 = true then (if inb x2 105 = true then (if inb x2 105 = true then (if inb x1 105 = true then some (((M.1 27 (ix x1)).toInt64 * (M.1 28 (ix x2)).toInt64) - ((M.1 27 (ix x2)).toInt64 * (M.1 28 (ix x1)).toInt64)) else none) else none) else none) else none)
set_option maxHeartbeats 4000000 in
set_option maxRecDepth 100000 in
theorem wX2_turnBetween_0 {r : Int64} {M : Mem} (X : CX E p s m args c meth cX2_turnBetween 3 (some .long) RX2) : ∀ {x1 : Int32} {x2 : Int32} {H : Heap} {locs : List Loc} {ls : Array Slot}, fX2_turnBetween M x1 x2 = some r → Rl E (sh_ b) (nn b) s.heap M H locs → lv_has ls 3 [(0, .ref (eB E + 26)), (1, .int x1), (2, .int x2)] → W p l e (rm 1 0 0) s m args below meth c H locs 0 0 (MQ below (qq E (some (.long r)) (sh_ b) (nn b) M) args s 0 0 (fr E)) (F0 m 0 ls []) := by
  obtain ⟨hx, hb, hr, hml, hown, hts, hK, hN, hO, hlk, hbs⟩ := id X
  intro x1 x2 H locs ls hf hR hl
  unfold fX2_turnBetween at hf
  refine lv_aload_n hx hb dX2_turnBetween_0 rfl (lv_at hl 0 rfl) ?_
  refine x_get hx hb hown hts hK hR kX2 (z_26 b) (j := 1) (by decide) fl_X2_11 (v := .ref (eB E + 27)) rfl dX2_turnBetween_1 ?_
  refine lv_iload_n hx hb dX2_turnBetween_4 rfl (lv_at hl 1 rfl) ?_
  obtain ⟨g5, hf⟩ := br_g hf
  refine x_iald hx hb hK hR (z_27 b) g5 dX2_turnBetween_5 ?_
  refine lv_i2l (v := (M.1 27 (ix x1)).toInt64) hx hb dX2_turnBetween_6 rfl ?_
  refine lv_aload_n hx hb dX2_turnBetween_7 rfl (lv_at hl 0 rfl) ?_
  refine x_get hx hb hown hts hK hR kX2 (z_26 b) (j := 2) (by decide) fl_X2_15 (v := .ref (eB E + 28)) rfl dX2_turnBetween_8 ?_
  refine lv_iload_n hx hb dX2_turnBetween_11 rfl (lv_at hl 2 rfl) ?_
  obtain ⟨g12, hf⟩ := br_g hf
  refine x_iald hx hb hK hR (z_28 b) g12 dX2_turnBetween_12 ?_
  refine lv_i2l (v := (M.1 28 (ix x2)).toInt64) hx hb dX2_turnBetween_13 rfl ?_
  refine lv_lmul hx hb dX2_turnBetween_14 ?_
  refine lv_aload_n hx hb dX2_turnBetween_15 rfl (lv_at hl 0 rfl) ?_
  refine x_get hx hb hown hts hK hR kX2 (z_26 b) (j := 1) (by decide) fl_X2_11 (v := .ref (eB E + 27)) rfl dX2_turnBetween_16 ?_
  refine lv_iload_n hx hb dX2_turnBetween_19 rfl (lv_at hl 2 rfl) ?_
  obtain ⟨g20, hf⟩ := br_g hf
  refine x_iald hx hb hK hR (z_27 b) g20 dX2_turnBetween_20 ?_
  refine lv_i2l (v := (M.1 27 (ix x2)).toInt64) hx hb dX2_turnBetween_21 rfl ?_
  refine lv_aload_n hx hb dX2_turnBetween_22 rfl (lv_at hl 0 rfl) ?_
  refine x_get hx hb hown hts hK hR kX2 (z_26 b) (j := 2) (by decide) fl_X2_15 (v := .ref (eB E + 28)) rfl dX2_turnBetween_23 ?_
  refine lv_iload_n hx hb dX2_turnBetween_26 rfl (lv_at hl 1 rfl) ?_
  obtain ⟨g27, hf⟩ := br_g hf
  refine x_iald hx hb hK hR (z_28 b) g27 dX2_turnBetween_27 ?_
  refine lv_i2l (v := (M.1 28 (ix x1)).toInt64) hx hb dX2_turnBetween_28 rfl ?_
  refine lv_lmul hx hb dX2_turnBetween_29 ?_
  refine lv_lsub hx hb dX2_turnBetween_30 ?_
  cases hf
  exact x_lret hx hb hr hlk hR dX2_turnBetween_31
theorem ctX2_turnBetween {l : Launch} {E : Ge} {b : Bool} {M : Mem} {x1 : Int32} {x2 : Int32} {r : Int64} (h : fX2_turnBetween M x1 x2 = some r) : CT l E yX2_turnBetween cX2_turnBetween 3 (some .long) 1 0 0 [.ref (eB E + 26), .int x1, .int x2] (some (.long r)) (sh_ b) (nn b) M (sh_ b) (nn b) M := by
  refine met_of (by decide) (Nat.le_of_ble_eq_true rfl) ?_
  intro p e s m args below meth c X _ hR ls hl
  exact wX2_turnBetween_0 X h hR hl
def fX4_isCrowdedFrom_152 (M : Mem) (k41 : Int64 → Int64 → Int64 → Int64 → Int64 → Int32 → Int32 → Option Int32) (k158 : Int32 → Option Int32) (y2 : Int64) (y4 : Int64) (y6 : Int64) (y8 : Int64) (y10 : Int64) (x12 : Int32) (x13 : Int32) : Option Int32 := nx (x13 + (1 : Int32)) (fun v152 => k41 y2 y4 y6 y8 y10 x12 v152)
def fX4_isCrowdedFrom_137 (M : Mem) (k41 : Int64 → Int64 → Int64 → Int64 → Int64 → Int32 → Int32 → Option Int32) (k158 : Int32 → Option Int32) (y2 : Int64) (y4 : Int64) (y6 : Int64) (y8 : Int64) (y10 : Int64) (x12 : Int32) (x13 : Int32) : Option Int32 := (if inb x13 15 = true then nx (x12 + (M.1 4 (ix x13))) (fun v150 => fX4_isCrowdedFrom_152 M k41 k158 y2 y4 y6 y8 y10 v150 x13) else none)
def fX4_isCrowdedFrom_41 (M : Mem) (k158 : Int32 → Option Int32) : Nat → Int64 → Int64 → Int64 → Int64 → Int64 → Int32 → Int32 → Option Int32
  | 0, _, _, _, _, _, _, _ => none
  | n + 1, y2, y4, y6, y8, y10, x12, x13 => (if (M.1 1 0) ≤ x13 then k158 x12 else (if inb x13 15 = true then nx ((y6 * (M.1 2 (ix x13)).toInt64) - y2) (fun v69 => (if inb x13 15 = true then nx ((y6 * (M.1 3 (ix x13)).toInt64) - y4) (fun v88 => nx ((y8 * v88) - (y10 * v69)) (fun v101 => nx ((y8 * v69) + (y10 * v88)) (fun v114 => (if 0 < (lg_cmp v101 (0 : Int64)) then fX4_isCrowdedFrom_137 M (fX4_isCrowdedFrom_41 M k158 n) k158 y2 y4 y6 y8 y10 x12 x13 else (if (lg_cmp v101 (0 : Int64)) = 0 then (if (lg_cmp v114 (0 : Int64)) ≤ 0 then fX4_isCrowdedFrom_152 M (fX4_isCrowdedFrom_41 M k158 n) k158 y2 y4 y6 y8 y10 x12 x13 else fX4_isCrowdedFrom_137 M (fX4_isCrowdedFrom_41 M k158 n) k158 y2 y4 y6 y8 y10 x12 x13) else fX4_isCrowdedFrom_152 M (fX4_isCrowdedFrom_41 M k158 n) k158 y2 y4 y6 y8 y10 x12 x13))))) else none)) else none))
def fX4_isCrowdedFrom_158 (M : Mem) (x12 : Int32) : Option Int32 := (fX8_isMoreThanHalf_t M x12).bind (fun q164 => some (q164 &&& 1))
def fX4_isCrowdedFrom (M : Mem) (x1 : Int32) (y2 : Int64) (y4 : Int64) (y6 : Int64) : Option Int32 := (if inb x1 15 = true then nx ((y6 * (M.1 2 (ix x1)).toInt64) - y2) (fun v15 => (if inb x1 15 = true then nx ((y6 * (M.1 3 (ix x1)).toInt64) - y4) (fun v33 => fX4_isCrowdedFrom_41 M (fX4_isCrowdedFrom_158 M) FU y2 y4 y6 v15 v33 (0 : Int32) (0 : Int32)) else none)) else none)
set_option maxHeartbeats 4000000 in
set_option maxRecDepth 100000 in
theorem wX4_isCrowdedFrom_152 {r : Int32} {M : Mem} {k41 : Int64 → Int64 → Int64 → Int64 → Int64 → Int32 → Int32 → Option Int32} {k158 : Int32 → Option Int32} (X : CX E p s m args c meth cX4_isCrowdedFrom 22 (some .boolean) RX4) (hk41 : ∀ {y2 : Int64} {y4 : Int64} {y6 : Int64} {y8 : Int64} {y10 : Int64} {x12 : Int32} {x13 : Int32} {H : Heap} {locs : List Loc} {ls : Array Slot}, k41 y2 y4 y6 y8 y10 x12 x13 = some r → Rl E (sh_ b) (nn b) s.heap M H locs → lv_has ls 22 [(0, .ref (eB E + 30)), (2, .long y2), (4, .long y4), (6, .long y6), (8, .long y8), (10, .long y10), (12, .int x12), (13, .int x13)] → W p l e (rm 2 0 0) s m args below meth c H locs 0 0 (MQ below (qq E (some (.int r)) (sh_ b) (nn b) M) args s 0 0 (fr E)) (F0 m 41 ls [])) (hk158 : ∀ {x12 : Int32} {H : Heap} {locs : List Loc} {ls : Array Slot}, k158 x12 = some r → Rl E (sh_ b) (nn b) s.heap M H locs → lv_has ls 22 [(0, .ref (eB E + 30)), (12, .int x12)] → W p l e (rm 2 0 0) s m args below meth c H locs 0 0 (MQ below (qq E (some (.int r)) (sh_ b) (nn b) M) args s 0 0 (fr E)) (F0 m 158 ls [])) : ∀ {y2 : Int64} {y4 : Int64} {y6 : Int64} {y8 : Int64} {y10 : Int64} {x12 : Int32} {x13 : Int32} {H : Heap} {locs : List Loc} {ls : Array Slot}, fX4_isCrowdedFrom_152 M k41 k158 y2 y4 y6 y8 y10 x12 x13 = some r → Rl E (sh_ b) (nn b) s.heap M H locs → lv_has ls 22 [(0, .ref (eB E + 30)), (2, .long y2), (4, .long y4), (6, .long y6), (8, .long y8), (10, .long y10), (12, .int x12), (13, .int x13)] → W p l e (rm 2 0 0) s m args below meth c H locs 0 0 (MQ below (qq E (some (.int r)) (sh_ b) (nn b) M) args s 0 0 (fr E)) (F0 m 152 ls []) := by
  obtain ⟨hx, hb, hr, hml, hown, hts, hK, hN, hO, hlk, hbs⟩ := id X
  intro y2 y4 y6 y8 y10 x12 x13 H locs ls hf hR hl
  unfold fX4_isCrowdedFrom_152 at hf
  obtain ⟨v152, e152⟩ : ∃ y : Int32, y = (x13 + (1 : Int32)) := ⟨_, rfl⟩
  have hf := nx_at e152 hf
  refine lv_iinc (v := v152) (lv' := [(13, .int v152), (0, .ref (eB E + 30)), (2, .long y2), (4, .long y4), (6, .long y6), (8, .long y8), (10, .long y10), (12, .int x12)]) hx hb dX4_isCrowdedFrom_152 hl (k := 7) rfl (by rw [e152]; rfl) (by decide) rfl (fun ls hl => ?_)
  refine lv_goto (tgt := 41) hx hb dX4_isCrowdedFrom_155 (by decide) ?_
  exact hk41 hf hR (lv_sub hl [1, 2, 3, 4, 5, 6, 7, 0] rfl)
set_option maxHeartbeats 4000000 in
set_option maxRecDepth 100000 in
theorem wX4_isCrowdedFrom_137 {r : Int32} {M : Mem} {k41 : Int64 → Int64 → Int64 → Int64 → Int64 → Int32 → Int32 → Option Int32} {k158 : Int32 → Option Int32} (X : CX E p s m args c meth cX4_isCrowdedFrom 22 (some .boolean) RX4) (hk41 : ∀ {y2 : Int64} {y4 : Int64} {y6 : Int64} {y8 : Int64} {y10 : Int64} {x12 : Int32} {x13 : Int32} {H : Heap} {locs : List Loc} {ls : Array Slot}, k41 y2 y4 y6 y8 y10 x12 x13 = some r → Rl E (sh_ b) (nn b) s.heap M H locs → lv_has ls 22 [(0, .ref (eB E + 30)), (2, .long y2), (4, .long y4), (6, .long y6), (8, .long y8), (10, .long y10), (12, .int x12), (13, .int x13)] → W p l e (rm 2 0 0) s m args below meth c H locs 0 0 (MQ below (qq E (some (.int r)) (sh_ b) (nn b) M) args s 0 0 (fr E)) (F0 m 41 ls [])) (hk158 : ∀ {x12 : Int32} {H : Heap} {locs : List Loc} {ls : Array Slot}, k158 x12 = some r → Rl E (sh_ b) (nn b) s.heap M H locs → lv_has ls 22 [(0, .ref (eB E + 30)), (12, .int x12)] → W p l e (rm 2 0 0) s m args below meth c H locs 0 0 (MQ below (qq E (some (.int r)) (sh_ b) (nn b) M) args s 0 0 (fr E)) (F0 m 158 ls [])) : ∀ {y2 : Int64} {y4 : Int64} {y6 : Int64} {y8 : Int64} {y10 : Int64} {x12 : Int32} {x13 : Int32} {H : Heap} {locs : List Loc} {ls : Array Slot}, fX4_isCrowdedFrom_137 M k41 k158 y2 y4 y6 y8 y10 x12 x13 = some r → Rl E (sh_ b) (nn b) s.heap M H locs → lv_has ls 22 [(0, .ref (eB E + 30)), (2, .long y2), (4, .long y4), (6, .long y6), (8, .long y8), (10, .long y10), (12, .int x12), (13, .int x13)] → W p l e (rm 2 0 0) s m args below meth c H locs 0 0 (MQ below (qq E (some (.int r)) (sh_ b) (nn b) M) args s 0 0 (fr E)) (F0 m 137 ls []) := by
  obtain ⟨hx, hb, hr, hml, hown, hts, hK, hN, hO, hlk, hbs⟩ := id X
  intro y2 y4 y6 y8 y10 x12 x13 H locs ls hf hR hl
  unfold fX4_isCrowdedFrom_137 at hf
  refine lv_iload hx hb dX4_isCrowdedFrom_137 (lv_at hl 6 rfl) ?_
  refine lv_aload_n hx hb dX4_isCrowdedFrom_139 rfl (lv_at hl 0 rfl) ?_
  refine x_get hx hb hown hts hK hR kX4 (z_30 b) (j := 0) (by decide) fl_X4_29 (v := .ref (eB E + 1)) rfl dX4_isCrowdedFrom_140 ?_
  refine x_get hx hb hown hts hK hR kX8 (z_1 b) (j := 3) (by decide) fl_X4_98 (v := .ref (eB E + 4)) rfl dX4_isCrowdedFrom_143 ?_
  refine lv_iload hx hb dX4_isCrowdedFrom_146 (lv_at hl 7 rfl) ?_
  obtain ⟨g148, hf⟩ := br_g hf
  refine x_iald hx hb hK hR (z_4 b) g148 dX4_isCrowdedFrom_148 ?_
  refine lv_iadd hx hb dX4_isCrowdedFrom_149 ?_
  refine lv_topi (fun v150 e150 => ?_)
  have hf := nx_at e150 hf
  refine lv_istore (lv' := [(12, .int v150), (0, .ref (eB E + 30)), (2, .long y2), (4, .long y4), (6, .long y6), (8, .long y8), (10, .long y10), (13, .int x13)]) hx hb dX4_isCrowdedFrom_150 hl (by decide) rfl (fun ls hl => ?_)
  exact wX4_isCrowdedFrom_152 X (fun hf hR hl => hk41 hf hR hl) (fun hf hR hl => hk158 hf hR hl) hf hR (lv_sub hl [1, 2, 3, 4, 5, 6, 0, 7] rfl)
set_option maxHeartbeats 4000000 in
set_option maxRecDepth 100000 in
theorem wX4_isCrowdedFrom_41 {r : Int32} {M : Mem} {k158 : Int32 → Option Int32} (X : CX E p s m args c meth cX4_isCrowdedFrom 22 (some .boolean) RX4) (hk158 : ∀ {x12 : Int32} {H : Heap} {locs : List Loc} {ls : Array Slot}, k158 x12 = some r → Rl E (sh_ b) (nn b) s.heap M H locs → lv_has ls 22 [(0, .ref (eB E + 30)), (12, .int x12)] → W p l e (rm 2 0 0) s m args below meth c H locs 0 0 (MQ below (qq E (some (.int r)) (sh_ b) (nn b) M) args s 0 0 (fr E)) (F0 m 158 ls [])) : ∀ (n : Nat) {y2 : Int64} {y4 : Int64} {y6 : Int64} {y8 : Int64} {y10 : Int64} {x12 : Int32} {x13 : Int32} {H : Heap} {locs : List Loc} {ls : Array Slot}, fX4_isCrowdedFrom_41 M k158 n y2 y4 y6 y8 y10 x12 x13 = some r → Rl E (sh_ b) (nn b) s.heap M H locs → lv_has ls 22 [(0, .ref (eB E + 30)), (2, .long y2), (4, .long y4), (6, .long y6), (8, .long y8), (10, .long y10), (12, .int x12), (13, .int x13)] → W p l e (rm 2 0 0) s m args below meth c H locs 0 0 (MQ below (qq E (some (.int r)) (sh_ b) (nn b) M) args s 0 0 (fr E)) (F0 m 41 ls []) := by
  obtain ⟨hx, hb, hr, hml, hown, hts, hK, hN, hO, hlk, hbs⟩ := id X
  intro n
  induction n with
  | zero =>
    intro y2 y4 y6 y8 y10 x12 x13 H locs ls hf hR hl
    exact absurd (show none = some _ from hf) (fun h => by cases h)
  | succ n ih =>
    intro y2 y4 y6 y8 y10 x12 x13 H locs ls hf hR hl
    rw [fX4_isCrowdedFrom_41] at hf
    refine lv_iload hx hb dX4_isCrowdedFrom_41 (lv_at hl 7 rfl) ?_
    refine lv_aload_n hx hb dX4_isCrowdedFrom_43 rfl (lv_at hl 0 rfl) ?_
    refine x_get hx hb hown hts hK hR kX4 (z_30 b) (j := 0) (by decide) fl_X4_29 (v := .ref (eB E + 1)) rfl dX4_isCrowdedFrom_44 ?_
    refine x_get hx hb hown hts hK hR kX8 (z_1 b) (j := 0) (by decide) fl_X4_48 (v := .int (M.1 1 0)) rfl dX4_isCrowdedFrom_47 ?_
    refine lv_icmp_ge (tgt := 158) hx hb dX4_isCrowdedFrom_50 (by decide) (fun q50 => ?_) (fun q50 => ?_)
    · have hf := (br_if hf).1 q50
      exact hk158 hf hR (lv_sub hl [0, 6] rfl)
    · have hf := (br_if hf).2 q50
      refine lv_lload hx hb dX4_isCrowdedFrom_53 (lv_at hl 3 rfl) ?_
      refine lv_aload_n hx hb dX4_isCrowdedFrom_55 rfl (lv_at hl 0 rfl) ?_
      refine x_get hx hb hown hts hK hR kX4 (z_30 b) (j := 0) (by decide) fl_X4_29 (v := .ref (eB E + 1)) rfl dX4_isCrowdedFrom_56 ?_
      refine x_get hx hb hown hts hK hR kX8 (z_1 b) (j := 1) (by decide) fl_X4_51 (v := .ref (eB E + 2)) rfl dX4_isCrowdedFrom_59 ?_
      refine lv_iload hx hb dX4_isCrowdedFrom_62 (lv_at hl 7 rfl) ?_
      obtain ⟨g64, hf⟩ := br_g hf
      refine x_iald hx hb hK hR (z_2 b) g64 dX4_isCrowdedFrom_64 ?_
      refine lv_i2l (v := (M.1 2 (ix x13)).toInt64) hx hb dX4_isCrowdedFrom_65 rfl ?_
      refine lv_lmul hx hb dX4_isCrowdedFrom_66 ?_
      refine lv_lload_n hx hb dX4_isCrowdedFrom_67 rfl (lv_at hl 1 rfl) ?_
      refine lv_lsub hx hb dX4_isCrowdedFrom_68 ?_
      refine lv_topl (fun v69 e69 => ?_)
      have hf := nx_at e69 hf
      refine lv_lstore (lv' := [(14, .long v69), (0, .ref (eB E + 30)), (2, .long y2), (4, .long y4), (6, .long y6), (8, .long y8), (10, .long y10), (12, .int x12), (13, .int x13)]) hx hb dX4_isCrowdedFrom_69 hl (by decide) rfl (fun ls hl => ?_)
      refine lv_lload hx hb dX4_isCrowdedFrom_71 (lv_at hl 4 rfl) ?_
      refine lv_aload_n hx hb dX4_isCrowdedFrom_73 rfl (lv_at hl 1 rfl) ?_
      refine x_get hx hb hown hts hK hR kX4 (z_30 b) (j := 0) (by decide) fl_X4_29 (v := .ref (eB E + 1)) rfl dX4_isCrowdedFrom_74 ?_
      refine x_get hx hb hown hts hK hR kX8 (z_1 b) (j := 2) (by decide) fl_X4_53 (v := .ref (eB E + 3)) rfl dX4_isCrowdedFrom_77 ?_
      refine lv_iload hx hb dX4_isCrowdedFrom_80 (lv_at hl 8 rfl) ?_
      obtain ⟨g82, hf⟩ := br_g hf
      refine x_iald hx hb hK hR (z_3 b) g82 dX4_isCrowdedFrom_82 ?_
      refine lv_i2l (v := (M.1 3 (ix x13)).toInt64) hx hb dX4_isCrowdedFrom_83 rfl ?_
      refine lv_lmul hx hb dX4_isCrowdedFrom_84 ?_
      refine lv_lload hx hb dX4_isCrowdedFrom_85 (lv_at hl 3 rfl) ?_
      refine lv_lsub hx hb dX4_isCrowdedFrom_87 ?_
      refine lv_topl (fun v88 e88 => ?_)
      have hf := nx_at e88 hf
      refine lv_lstore (lv' := [(16, .long v88), (14, .long v69), (0, .ref (eB E + 30)), (2, .long y2), (4, .long y4), (6, .long y6), (8, .long y8), (10, .long y10), (12, .int x12), (13, .int x13)]) hx hb dX4_isCrowdedFrom_88 hl (by decide) rfl (fun ls hl => ?_)
      refine lv_lload hx hb dX4_isCrowdedFrom_90 (lv_at hl 6 rfl) ?_
      refine lv_lload hx hb dX4_isCrowdedFrom_92 (lv_at hl 0 rfl) ?_
      refine lv_lmul hx hb dX4_isCrowdedFrom_94 ?_
      refine lv_lload hx hb dX4_isCrowdedFrom_95 (lv_at hl 7 rfl) ?_
      refine lv_lload hx hb dX4_isCrowdedFrom_97 (lv_at hl 1 rfl) ?_
      refine lv_lmul hx hb dX4_isCrowdedFrom_99 ?_
      refine lv_lsub hx hb dX4_isCrowdedFrom_100 ?_
      refine lv_topl (fun v101 e101 => ?_)
      have hf := nx_at e101 hf
      refine lv_lstore (lv' := [(18, .long v101), (16, .long v88), (14, .long v69), (0, .ref (eB E + 30)), (2, .long y2), (4, .long y4), (6, .long y6), (8, .long y8), (10, .long y10), (12, .int x12), (13, .int x13)]) hx hb dX4_isCrowdedFrom_101 hl (by decide) rfl (fun ls hl => ?_)
      refine lv_lload hx hb dX4_isCrowdedFrom_103 (lv_at hl 7 rfl) ?_
      refine lv_lload hx hb dX4_isCrowdedFrom_105 (lv_at hl 2 rfl) ?_
      refine lv_lmul hx hb dX4_isCrowdedFrom_107 ?_
      refine lv_lload hx hb dX4_isCrowdedFrom_108 (lv_at hl 8 rfl) ?_
      refine lv_lload hx hb dX4_isCrowdedFrom_110 (lv_at hl 1 rfl) ?_
      refine lv_lmul hx hb dX4_isCrowdedFrom_112 ?_
      refine lv_ladd hx hb dX4_isCrowdedFrom_113 ?_
      refine lv_topl (fun v114 e114 => ?_)
      have hf := nx_at e114 hf
      refine lv_lstore (lv' := [(20, .long v114), (18, .long v101), (16, .long v88), (14, .long v69), (0, .ref (eB E + 30)), (2, .long y2), (4, .long y4), (6, .long y6), (8, .long y8), (10, .long y10), (12, .int x12), (13, .int x13)]) hx hb dX4_isCrowdedFrom_114 hl (by decide) rfl (fun ls hl => ?_)
      refine lv_lload hx hb dX4_isCrowdedFrom_116 (lv_at hl 1 rfl) ?_
      refine lv_lconst (v := 0) hx hb dX4_isCrowdedFrom_118 (by decide) ?_
      refine W.lcmp hx hb dX4_isCrowdedFrom_119 ?_
      refine lv_if_gt (tgt := 137) hx hb dX4_isCrowdedFrom_120 (by decide) (fun q120 => ?_) (fun q120 => ?_)
      · have hf := (br_if hf).1 q120
        exact wX4_isCrowdedFrom_137 X (fun hf hR hl => ih hf hR hl) (fun hf hR hl => hk158 hf hR hl) hf hR (lv_sub hl [4, 5, 6, 7, 8, 9, 10, 11] rfl)
      · have hf := (br_if hf).2 q120
        refine lv_lload hx hb dX4_isCrowdedFrom_123 (lv_at hl 1 rfl) ?_
        refine lv_lconst (v := 0) hx hb dX4_isCrowdedFrom_125 (by decide) ?_
        refine W.lcmp hx hb dX4_isCrowdedFrom_126 ?_
        refine lv_if_ne (tgt := 152) hx hb dX4_isCrowdedFrom_127 (by decide) (fun q127 => ?_) (fun q127 => ?_)
        · have hf := (br_if hf).2 q127
          exact wX4_isCrowdedFrom_152 X (fun hf hR hl => ih hf hR hl) (fun hf hR hl => hk158 hf hR hl) hf hR (lv_sub hl [4, 5, 6, 7, 8, 9, 10, 11] rfl)
        · have hf := (br_if hf).1 q127
          refine lv_lload hx hb dX4_isCrowdedFrom_130 (lv_at hl 0 rfl) ?_
          refine lv_lconst (v := 0) hx hb dX4_isCrowdedFrom_132 (by decide) ?_
          refine W.lcmp hx hb dX4_isCrowdedFrom_133 ?_
          refine lv_if_le (tgt := 152) hx hb dX4_isCrowdedFrom_134 (by decide) (fun q134 => ?_) (fun q134 => ?_)
          · have hf := (br_if hf).1 q134
            exact wX4_isCrowdedFrom_152 X (fun hf hR hl => ih hf hR hl) (fun hf hR hl => hk158 hf hR hl) hf hR (lv_sub hl [4, 5, 6, 7, 8, 9, 10, 11] rfl)
          · have hf := (br_if hf).2 q134
            exact wX4_isCrowdedFrom_137 X (fun hf hR hl => ih hf hR hl) (fun hf hR hl => hk158 hf hR hl) hf hR (lv_sub hl [4, 5, 6, 7, 8, 9, 10, 11] rfl)
set_option maxHeartbeats 4000000 in
set_option maxRecDepth 100000 in
theorem wX4_isCrowdedFrom_158 {r : Int32} {M : Mem} (X : CX E p s m args c meth cX4_isCrowdedFrom 22 (some .boolean) RX4) : ∀ {x12 : Int32} {H : Heap} {locs : List Loc} {ls : Array Slot}, fX4_isCrowdedFrom_158 M x12 = some r → Rl E (sh_ b) (nn b) s.heap M H locs → lv_has ls 22 [(0, .ref (eB E + 30)), (12, .int x12)] → W p l e (rm 2 0 0) s m args below meth c H locs 0 0 (MQ below (qq E (some (.int r)) (sh_ b) (nn b) M) args s 0 0 (fr E)) (F0 m 158 ls []) := by
  obtain ⟨hx, hb, hr, hml, hown, hts, hK, hN, hO, hlk, hbs⟩ := id X
  intro x12 H locs ls hf hR hl
  unfold fX4_isCrowdedFrom_158 at hf
  refine lv_aload_n hx hb dX4_isCrowdedFrom_158 rfl (lv_at hl 0 rfl) ?_
  refine x_get hx hb hown hts hK hR kX4 (z_30 b) (j := 0) (by decide) fl_X4_29 (v := .ref (eB E + 1)) rfl dX4_isCrowdedFrom_159 ?_
  refine lv_iload hx hb dX4_isCrowdedFrom_162 (lv_at hl 1 rfl) ?_
  obtain ⟨q164, c164, hf⟩ := br_b hf
  refine x_callV (k := 1) (As := [.int x12]) (rest := []) (st1 := [.int q164]) X hR (ctX8_isMoreThanHalf_t c164) ml_X4_101 im_X8_isMoreThanHalf se_X8_isMoreThanHalf in_X8 co_X8_isMoreThanHalf yo_X8_isMoreThanHalf rfl kX8 (z_1 b) (rm_ok (by decide) (by decide)) rfl hl.1 rfl rfl (Nat.le_of_ble_eq_true rfl) dX4_isCrowdedFrom_164 ⟨Nat.zero_le _, Nat.zero_le _⟩ (fun H locs hR => ?_)
  cases hf
  exact x_zret hx hb hr hlk hR rfl dX4_isCrowdedFrom_167
set_option maxHeartbeats 4000000 in
set_option maxRecDepth 100000 in
theorem wX4_isCrowdedFrom_0 {r : Int32} {M : Mem} (X : CX E p s m args c meth cX4_isCrowdedFrom 22 (some .boolean) RX4) : ∀ {x1 : Int32} {y2 : Int64} {y4 : Int64} {y6 : Int64} {H : Heap} {locs : List Loc} {ls : Array Slot}, fX4_isCrowdedFrom M x1 y2 y4 y6 = some r → Rl E (sh_ b) (nn b) s.heap M H locs → lv_has ls 22 [(0, .ref (eB E + 30)), (1, .int x1), (2, .long y2), (4, .long y4), (6, .long y6)] → W p l e (rm 2 0 0) s m args below meth c H locs 0 0 (MQ below (qq E (some (.int r)) (sh_ b) (nn b) M) args s 0 0 (fr E)) (F0 m 0 ls []) := by
  obtain ⟨hx, hb, hr, hml, hown, hts, hK, hN, hO, hlk, hbs⟩ := id X
  intro x1 y2 y4 y6 H locs ls hf hR hl
  unfold fX4_isCrowdedFrom at hf
  refine lv_lload hx hb dX4_isCrowdedFrom_0 (lv_at hl 4 rfl) ?_
  refine lv_aload_n hx hb dX4_isCrowdedFrom_2 rfl (lv_at hl 0 rfl) ?_
  refine x_get hx hb hown hts hK hR kX4 (z_30 b) (j := 0) (by decide) fl_X4_29 (v := .ref (eB E + 1)) rfl dX4_isCrowdedFrom_3 ?_
  refine x_get hx hb hown hts hK hR kX8 (z_1 b) (j := 1) (by decide) fl_X4_51 (v := .ref (eB E + 2)) rfl dX4_isCrowdedFrom_6 ?_
  refine lv_iload_n hx hb dX4_isCrowdedFrom_9 rfl (lv_at hl 1 rfl) ?_
  obtain ⟨g10, hf⟩ := br_g hf
  refine x_iald hx hb hK hR (z_2 b) g10 dX4_isCrowdedFrom_10 ?_
  refine lv_i2l (v := (M.1 2 (ix x1)).toInt64) hx hb dX4_isCrowdedFrom_11 rfl ?_
  refine lv_lmul hx hb dX4_isCrowdedFrom_12 ?_
  refine lv_lload_n hx hb dX4_isCrowdedFrom_13 rfl (lv_at hl 2 rfl) ?_
  refine lv_lsub hx hb dX4_isCrowdedFrom_14 ?_
  refine lv_topl (fun v15 e15 => ?_)
  have hf := nx_at e15 hf
  refine lv_lstore (lv' := [(8, .long v15), (0, .ref (eB E + 30)), (1, .int x1), (2, .long y2), (4, .long y4), (6, .long y6)]) hx hb dX4_isCrowdedFrom_15 hl (by decide) rfl (fun ls hl => ?_)
  refine lv_lload hx hb dX4_isCrowdedFrom_17 (lv_at hl 5 rfl) ?_
  refine lv_aload_n hx hb dX4_isCrowdedFrom_19 rfl (lv_at hl 1 rfl) ?_
  refine x_get hx hb hown hts hK hR kX4 (z_30 b) (j := 0) (by decide) fl_X4_29 (v := .ref (eB E + 1)) rfl dX4_isCrowdedFrom_20 ?_
  refine x_get hx hb hown hts hK hR kX8 (z_1 b) (j := 2) (by decide) fl_X4_53 (v := .ref (eB E + 3)) rfl dX4_isCrowdedFrom_23 ?_
  refine lv_iload_n hx hb dX4_isCrowdedFrom_26 rfl (lv_at hl 2 rfl) ?_
  obtain ⟨g27, hf⟩ := br_g hf
  refine x_iald hx hb hK hR (z_3 b) g27 dX4_isCrowdedFrom_27 ?_
  refine lv_i2l (v := (M.1 3 (ix x1)).toInt64) hx hb dX4_isCrowdedFrom_28 rfl ?_
  refine lv_lmul hx hb dX4_isCrowdedFrom_29 ?_
  refine lv_lload hx hb dX4_isCrowdedFrom_30 (lv_at hl 4 rfl) ?_
  refine lv_lsub hx hb dX4_isCrowdedFrom_32 ?_
  refine lv_topl (fun v33 e33 => ?_)
  have hf := nx_at e33 hf
  refine lv_lstore (lv' := [(10, .long v33), (8, .long v15), (0, .ref (eB E + 30)), (1, .int x1), (2, .long y2), (4, .long y4), (6, .long y6)]) hx hb dX4_isCrowdedFrom_33 hl (by decide) rfl (fun ls hl => ?_)
  refine lv_iconst (v := 0) hx hb dX4_isCrowdedFrom_35 (by decide) ?_
  refine lv_istore (lv' := [(12, .int (0 : Int32)), (10, .long v33), (8, .long v15), (0, .ref (eB E + 30)), (1, .int x1), (2, .long y2), (4, .long y4), (6, .long y6)]) hx hb dX4_isCrowdedFrom_36 hl (by decide) rfl (fun ls hl => ?_)
  refine lv_iconst (v := 0) hx hb dX4_isCrowdedFrom_38 (by decide) ?_
  refine lv_istore (lv' := [(13, .int (0 : Int32)), (12, .int (0 : Int32)), (10, .long v33), (8, .long v15), (0, .ref (eB E + 30)), (1, .int x1), (2, .long y2), (4, .long y4), (6, .long y6)]) hx hb dX4_isCrowdedFrom_39 hl (by decide) rfl (fun ls hl => ?_)
  exact wX4_isCrowdedFrom_41 X (fun hf hR hl => wX4_isCrowdedFrom_158 X hf hR hl) FU hf hR (lv_sub hl [4, 6, 7, 8, 3, 2, 1, 0] rfl)
theorem ctX4_isCrowdedFrom {l : Launch} {E : Ge} {b : Bool} {M : Mem} {x1 : Int32} {y2 : Int64} {y4 : Int64} {y6 : Int64} {r : Int32} (h : fX4_isCrowdedFrom M x1 y2 y4 y6 = some r) : CT l E yX4_isCrowdedFrom cX4_isCrowdedFrom 22 (some .boolean) 2 0 0 [.ref (eB E + 30), .int x1, .long y2, .long y4, .long y6] (some (.int r)) (sh_ b) (nn b) M (sh_ b) (nn b) M := by
  refine met_of (by decide) (Nat.le_of_ble_eq_true rfl) ?_
  intro p e s m args below meth c X _ hR ls hl
  exact wX4_isCrowdedFrom_0 X h hR hl
def fX4_isMiddle_3 (M : Mem) (k28 : Option Int32) (k36 : Option Int32) : Nat → Int64 → Int64 → Int64 → Int32 → Option Int32
  | 0, _, _, _, _ => none
  | n + 1, y1, y3, y5, x7 => (if (M.1 1 0) ≤ x7 then k36 else (fX4_isCrowdedFrom M x7 y1 y3 y5).bind (fun q22 => (if q22 = 0 then nx (x7 + (1 : Int32)) (fun v30 => fX4_isMiddle_3 M k28 k36 n y1 y3 y5 v30) else k28)))
def fX4_isMiddle_28 (M : Mem) : Option Int32 := some (0 : Int32)
def fX4_isMiddle_36 (M : Mem) : Option Int32 := some (1 : Int32)
def fX4_isMiddle (M : Mem) (y1 : Int64) (y3 : Int64) (y5 : Int64) : Option Int32 := fX4_isMiddle_3 M (fX4_isMiddle_28 M) (fX4_isMiddle_36 M) FU y1 y3 y5 (0 : Int32)
set_option maxHeartbeats 4000000 in
set_option maxRecDepth 100000 in
theorem wX4_isMiddle_3 {r : Int32} {M : Mem} {k28 : Option Int32} {k36 : Option Int32} (X : CX E p s m args c meth cX4_isMiddle 8 (some .boolean) RX4) (hk28 : ∀ {H : Heap} {locs : List Loc} {ls : Array Slot}, k28 = some r → Rl E (sh_ b) (nn b) s.heap M H locs → lv_has ls 8 [] → W p l e (rm 3 0 0) s m args below meth c H locs 0 0 (MQ below (qq E (some (.int r)) (sh_ b) (nn b) M) args s 0 0 (fr E)) (F0 m 28 ls [])) (hk36 : ∀ {H : Heap} {locs : List Loc} {ls : Array Slot}, k36 = some r → Rl E (sh_ b) (nn b) s.heap M H locs → lv_has ls 8 [] → W p l e (rm 3 0 0) s m args below meth c H locs 0 0 (MQ below (qq E (some (.int r)) (sh_ b) (nn b) M) args s 0 0 (fr E)) (F0 m 36 ls [])) : ∀ (n : Nat) {y1 : Int64} {y3 : Int64} {y5 : Int64} {x7 : Int32} {H : Heap} {locs : List Loc} {ls : Array Slot}, fX4_isMiddle_3 M k28 k36 n y1 y3 y5 x7 = some r → Rl E (sh_ b) (nn b) s.heap M H locs → lv_has ls 8 [(0, .ref (eB E + 30)), (1, .long y1), (3, .long y3), (5, .long y5), (7, .int x7)] → W p l e (rm 3 0 0) s m args below meth c H locs 0 0 (MQ below (qq E (some (.int r)) (sh_ b) (nn b) M) args s 0 0 (fr E)) (F0 m 3 ls []) := by
  obtain ⟨hx, hb, hr, hml, hown, hts, hK, hN, hO, hlk, hbs⟩ := id X
  intro n
  induction n with
  | zero =>
    intro y1 y3 y5 x7 H locs ls hf hR hl
    exact absurd (show none = some _ from hf) (fun h => by cases h)
  | succ n ih =>
    intro y1 y3 y5 x7 H locs ls hf hR hl
    rw [fX4_isMiddle_3] at hf
    refine lv_iload hx hb dX4_isMiddle_3 (lv_at hl 4 rfl) ?_
    refine lv_aload_n hx hb dX4_isMiddle_5 rfl (lv_at hl 0 rfl) ?_
    refine x_get hx hb hown hts hK hR kX4 (z_30 b) (j := 0) (by decide) fl_X4_29 (v := .ref (eB E + 1)) rfl dX4_isMiddle_6 ?_
    refine x_get hx hb hown hts hK hR kX8 (z_1 b) (j := 0) (by decide) fl_X4_48 (v := .int (M.1 1 0)) rfl dX4_isMiddle_9 ?_
    refine lv_icmp_ge (tgt := 36) hx hb dX4_isMiddle_12 (by decide) (fun q12 => ?_) (fun q12 => ?_)
    · have hf := (br_if hf).1 q12
      exact hk36 hf hR (lv_sub hl [] rfl)
    · have hf := (br_if hf).2 q12
      refine lv_aload_n hx hb dX4_isMiddle_15 rfl (lv_at hl 0 rfl) ?_
      refine lv_iload hx hb dX4_isMiddle_16 (lv_at hl 4 rfl) ?_
      refine lv_lload_n hx hb dX4_isMiddle_18 rfl (lv_at hl 1 rfl) ?_
      refine lv_lload_n hx hb dX4_isMiddle_19 rfl (lv_at hl 2 rfl) ?_
      refine lv_lload hx hb dX4_isMiddle_20 (lv_at hl 3 rfl) ?_
      obtain ⟨q22, c22, hf⟩ := br_b hf
      refine x_callV (k := 30) (As := [.int x7, .long y1, .long y3, .long y5]) (rest := []) (st1 := [.int q22]) X hR (ctX4_isCrowdedFrom c22) ml_X4_94 im_X4_isCrowdedFrom se_X4_isCrowdedFrom in_X4 co_X4_isCrowdedFrom yo_X4_isCrowdedFrom rfl kX4 (z_30 b) (rm_ok (by decide) (by decide)) rfl hl.1 rfl rfl (Nat.le_of_ble_eq_true rfl) dX4_isMiddle_22 ⟨Nat.zero_le _, Nat.zero_le _⟩ (fun H locs hR => ?_)
      refine lv_if_eq (tgt := 30) hx hb dX4_isMiddle_25 (by decide) (fun q25 => ?_) (fun q25 => ?_)
      · have hf := (br_if hf).1 q25
        obtain ⟨v30, e30⟩ : ∃ y : Int32, y = (x7 + (1 : Int32)) := ⟨_, rfl⟩
        have hf := nx_at e30 hf
        refine lv_iinc (v := v30) (lv' := [(7, .int v30), (0, .ref (eB E + 30)), (1, .long y1), (3, .long y3), (5, .long y5)]) hx hb dX4_isMiddle_30 hl (k := 4) rfl (by rw [e30]; rfl) (by decide) rfl (fun ls hl => ?_)
        refine lv_goto (tgt := 3) hx hb dX4_isMiddle_33 (by decide) ?_
        exact ih hf hR (lv_sub hl [1, 2, 3, 4, 0] rfl)
      · have hf := (br_if hf).2 q25
        exact hk28 hf hR (lv_sub hl [] rfl)
set_option maxHeartbeats 4000000 in
set_option maxRecDepth 100000 in
theorem wX4_isMiddle_28 {r : Int32} {M : Mem} (X : CX E p s m args c meth cX4_isMiddle 8 (some .boolean) RX4) : ∀ {H : Heap} {locs : List Loc} {ls : Array Slot}, fX4_isMiddle_28 M = some r → Rl E (sh_ b) (nn b) s.heap M H locs → lv_has ls 8 [] → W p l e (rm 3 0 0) s m args below meth c H locs 0 0 (MQ below (qq E (some (.int r)) (sh_ b) (nn b) M) args s 0 0 (fr E)) (F0 m 28 ls []) := by
  obtain ⟨hx, hb, hr, hml, hown, hts, hK, hN, hO, hlk, hbs⟩ := id X
  intro H locs ls hf hR hl
  unfold fX4_isMiddle_28 at hf
  refine lv_iconst (v := 0) hx hb dX4_isMiddle_28 (by decide) ?_
  cases hf
  exact x_zret hx hb hr hlk hR (by decide) dX4_isMiddle_29
set_option maxHeartbeats 4000000 in
set_option maxRecDepth 100000 in
theorem wX4_isMiddle_36 {r : Int32} {M : Mem} (X : CX E p s m args c meth cX4_isMiddle 8 (some .boolean) RX4) : ∀ {H : Heap} {locs : List Loc} {ls : Array Slot}, fX4_isMiddle_36 M = some r → Rl E (sh_ b) (nn b) s.heap M H locs → lv_has ls 8 [] → W p l e (rm 3 0 0) s m args below meth c H locs 0 0 (MQ below (qq E (some (.int r)) (sh_ b) (nn b) M) args s 0 0 (fr E)) (F0 m 36 ls []) := by
  obtain ⟨hx, hb, hr, hml, hown, hts, hK, hN, hO, hlk, hbs⟩ := id X
  intro H locs ls hf hR hl
  unfold fX4_isMiddle_36 at hf
  refine lv_iconst (v := 1) hx hb dX4_isMiddle_36 (by decide) ?_
  cases hf
  exact x_zret hx hb hr hlk hR (by decide) dX4_isMiddle_37
set_option maxHeartbeats 4000000 in
set_option maxRecDepth 100000 in
theorem wX4_isMiddle_0 {r : Int32} {M : Mem} (X : CX E p s m args c meth cX4_isMiddle 8 (some .boolean) RX4) : ∀ {y1 : Int64} {y3 : Int64} {y5 : Int64} {H : Heap} {locs : List Loc} {ls : Array Slot}, fX4_isMiddle M y1 y3 y5 = some r → Rl E (sh_ b) (nn b) s.heap M H locs → lv_has ls 8 [(0, .ref (eB E + 30)), (1, .long y1), (3, .long y3), (5, .long y5)] → W p l e (rm 3 0 0) s m args below meth c H locs 0 0 (MQ below (qq E (some (.int r)) (sh_ b) (nn b) M) args s 0 0 (fr E)) (F0 m 0 ls []) := by
  obtain ⟨hx, hb, hr, hml, hown, hts, hK, hN, hO, hlk, hbs⟩ := id X
  intro y1 y3 y5 H locs ls hf hR hl
  unfold fX4_isMiddle at hf
  refine lv_iconst (v := 0) hx hb dX4_isMiddle_0 (by decide) ?_
  refine lv_istore (lv' := [(7, .int (0 : Int32)), (0, .ref (eB E + 30)), (1, .long y1), (3, .long y3), (5, .long y5)]) hx hb dX4_isMiddle_1 hl (by decide) rfl (fun ls hl => ?_)
  exact wX4_isMiddle_3 X (fun hf hR hl => wX4_isMiddle_28 X hf hR hl) (fun hf hR hl => wX4_isMiddle_36 X hf hR hl) FU hf hR (lv_sub hl [1, 2, 3, 4, 0] rfl)
theorem ctX4_isMiddle {l : Launch} {E : Ge} {b : Bool} {M : Mem} {y1 : Int64} {y3 : Int64} {y5 : Int64} {r : Int32} (h : fX4_isMiddle M y1 y3 y5 = some r) : CT l E yX4_isMiddle cX4_isMiddle 8 (some .boolean) 3 0 0 [.ref (eB E + 30), .long y1, .long y3, .long y5] (some (.int r)) (sh_ b) (nn b) M (sh_ b) (nn b) M := by
  refine met_of (by decide) (Nat.le_of_ble_eq_true rfl) ?_
  intro p e s m args below meth c X _ hR ls hl
  exact wX4_isMiddle_0 X h hR hl
def fX4_order_53 (M : Mem) (s0 : Int32) : Option Int32 := some s0
def fX4_order (M : Mem) (x1 : Int32) (y2 : Int64) (y4 : Int64) (y6 : Int64) : Option Int32 := (if inb x1 15 = true then (if inb x1 15 = true then (fJ13_compare_74951 M ((M.2 31 (ix x1)) * y6) (y2 * (M.2 33 (ix x1)))).bind (fun q17 => (if q17 = 0 then (if inb x1 15 = true then (if inb x1 15 = true then (fJ13_compare_74951 M ((M.2 32 (ix x1)) * y6) (y4 * (M.2 33 (ix x1)))).bind (fun q50 => fX4_order_53 M q50) else none) else none) else fX4_order_53 M q17)) else none) else none)
set_option maxHeartbeats 4000000 in
set_option maxRecDepth 100000 in
theorem wX4_order_53 {r : Int32} {M : Mem} (X : CX E p s m args c meth cX4_order 9 (some .int) RX4) : ∀ {s0 : Int32} {H : Heap} {locs : List Loc} {ls : Array Slot}, fX4_order_53 M s0 = some r → Rl E (sh_ b) (nn b) s.heap M H locs → lv_has ls 9 [] → W p l e (rm 2 0 0) s m args below meth c H locs 0 0 (MQ below (qq E (some (.int r)) (sh_ b) (nn b) M) args s 0 0 (fr E)) (F0 m 53 ls [.int s0]) := by
  obtain ⟨hx, hb, hr, hml, hown, hts, hK, hN, hO, hlk, hbs⟩ := id X
  intro s0 H locs ls hf hR hl
  unfold fX4_order_53 at hf
  cases hf
  exact x_iret hx hb hr hlk hR dX4_order_53
set_option maxHeartbeats 4000000 in
set_option maxRecDepth 100000 in
theorem wX4_order_0 {r : Int32} {M : Mem} (X : CX E p s m args c meth cX4_order 9 (some .int) RX4) : ∀ {x1 : Int32} {y2 : Int64} {y4 : Int64} {y6 : Int64} {H : Heap} {locs : List Loc} {ls : Array Slot}, fX4_order M x1 y2 y4 y6 = some r → Rl E (sh_ b) (nn b) s.heap M H locs → lv_has ls 9 [(0, .ref (eB E + 30)), (1, .int x1), (2, .long y2), (4, .long y4), (6, .long y6)] → W p l e (rm 2 0 0) s m args below meth c H locs 0 0 (MQ below (qq E (some (.int r)) (sh_ b) (nn b) M) args s 0 0 (fr E)) (F0 m 0 ls []) := by
  obtain ⟨hx, hb, hr, hml, hown, hts, hK, hN, hO, hlk, hbs⟩ := id X
  intro x1 y2 y4 y6 H locs ls hf hR hl
  unfold fX4_order at hf
  refine lv_aload_n hx hb dX4_order_0 rfl (lv_at hl 0 rfl) ?_
  refine x_get hx hb hown hts hK hR kX4 (z_30 b) (j := 2) (by decide) fl_X4_11 (v := .ref (eB E + 31)) rfl dX4_order_1 ?_
  refine lv_iload_n hx hb dX4_order_4 rfl (lv_at hl 1 rfl) ?_
  obtain ⟨g5, hf⟩ := br_g hf
  refine x_lald hx hb hK hR (z_31 b) g5 dX4_order_5 ?_
  refine lv_lload hx hb dX4_order_6 (lv_at hl 4 rfl) ?_
  refine lv_lmul hx hb dX4_order_8 ?_
  refine lv_lload_n hx hb dX4_order_9 rfl (lv_at hl 2 rfl) ?_
  refine lv_aload_n hx hb dX4_order_10 rfl (lv_at hl 0 rfl) ?_
  refine x_get hx hb hown hts hK hR kX4 (z_30 b) (j := 4) (by decide) fl_X4_18 (v := .ref (eB E + 33)) rfl dX4_order_11 ?_
  refine lv_iload_n hx hb dX4_order_14 rfl (lv_at hl 1 rfl) ?_
  obtain ⟨g15, hf⟩ := br_g hf
  refine x_lald hx hb hK hR (z_33 b) g15 dX4_order_15 ?_
  refine lv_lmul hx hb dX4_order_16 ?_
  obtain ⟨q17, c17, hf⟩ := br_b hf
  refine x_callS (As := [.long ((M.2 31 (ix x1)) * y6), .long (y2 * (M.2 33 (ix x1)))]) (rest := []) (st1 := [.int q17]) X hR (ctJ13_compare_74951 c17) ml_X4_109 st_J13_compare_74951 in_J13 co_J13_compare_74951 yo_J13_compare_74951 (rm_ok (by decide) (by decide)) rfl hl.1 rfl rfl (Nat.le_of_ble_eq_true rfl) dX4_order_17 ⟨Nat.zero_le _, Nat.zero_le _⟩ (fun H locs hR => ?_)
  refine lv_istore (lv' := [(8, .int q17), (0, .ref (eB E + 30)), (1, .int x1), (2, .long y2), (4, .long y4), (6, .long y6)]) hx hb dX4_order_20 hl (by decide) rfl (fun ls hl => ?_)
  refine lv_iload hx hb dX4_order_22 (lv_at hl 0 rfl) ?_
  refine lv_if_eq (tgt := 32) hx hb dX4_order_24 (by decide) (fun q24 => ?_) (fun q24 => ?_)
  · have hf := (br_if hf).1 q24
    refine lv_aload_n hx hb dX4_order_32 rfl (lv_at hl 1 rfl) ?_
    refine x_get hx hb hown hts hK hR kX4 (z_30 b) (j := 3) (by decide) fl_X4_15 (v := .ref (eB E + 32)) rfl dX4_order_33 ?_
    refine lv_iload_n hx hb dX4_order_36 rfl (lv_at hl 2 rfl) ?_
    obtain ⟨g37, hf⟩ := br_g hf
    refine x_lald hx hb hK hR (z_32 b) g37 dX4_order_37 ?_
    refine lv_lload hx hb dX4_order_38 (lv_at hl 5 rfl) ?_
    refine lv_lmul hx hb dX4_order_40 ?_
    refine lv_lload hx hb dX4_order_41 (lv_at hl 4 rfl) ?_
    refine lv_aload_n hx hb dX4_order_43 rfl (lv_at hl 1 rfl) ?_
    refine x_get hx hb hown hts hK hR kX4 (z_30 b) (j := 4) (by decide) fl_X4_18 (v := .ref (eB E + 33)) rfl dX4_order_44 ?_
    refine lv_iload_n hx hb dX4_order_47 rfl (lv_at hl 2 rfl) ?_
    obtain ⟨g48, hf⟩ := br_g hf
    refine x_lald hx hb hK hR (z_33 b) g48 dX4_order_48 ?_
    refine lv_lmul hx hb dX4_order_49 ?_
    obtain ⟨q50, c50, hf⟩ := br_b hf
    refine x_callS (As := [.long ((M.2 32 (ix x1)) * y6), .long (y4 * (M.2 33 (ix x1)))]) (rest := []) (st1 := [.int q50]) X hR (ctJ13_compare_74951 c50) ml_X4_109 st_J13_compare_74951 in_J13 co_J13_compare_74951 yo_J13_compare_74951 (rm_ok (by decide) (by decide)) rfl hl.1 rfl rfl (Nat.le_of_ble_eq_true rfl) dX4_order_50 ⟨Nat.zero_le _, Nat.zero_le _⟩ (fun H locs hR => ?_)
    exact wX4_order_53 X hf hR (lv_sub hl [] rfl)
  · have hf := (br_if hf).2 q24
    refine lv_iload hx hb dX4_order_27 (lv_at hl 0 rfl) ?_
    refine lv_goto (tgt := 53) hx hb dX4_order_29 (by decide) ?_
    exact wX4_order_53 X hf hR (lv_sub hl [] rfl)
theorem ctX4_order {l : Launch} {E : Ge} {b : Bool} {M : Mem} {x1 : Int32} {y2 : Int64} {y4 : Int64} {y6 : Int64} {r : Int32} (h : fX4_order M x1 y2 y4 y6 = some r) : CT l E yX4_order cX4_order 9 (some .int) 2 0 0 [.ref (eB E + 30), .int x1, .long y2, .long y4, .long y6] (some (.int r)) (sh_ b) (nn b) M (sh_ b) (nn b) M := by
  refine met_of (by decide) (Nat.le_of_ble_eq_true rfl) ?_
  intro p e s m args below meth c X _ hR ls hl
  exact wX4_order_0 X h hR hl
def fX4_insert_3 (k31 : Int64 → Int64 → Int64 → Int32 → Mem → Option Mem) : Nat → Int64 → Int64 → Int64 → Int32 → Mem → Option Mem
  | 0, _, _, _, _, _ => none
  | n + 1, y1, y3, y5, x7, M => (if (M.1 30 5) ≤ x7 then k31 y1 y3 y5 x7 M else (fX4_order M x7 y1 y3 y5).bind (fun q19 => (if 0 ≤ q19 then k31 y1 y3 y5 x7 M else nx (x7 + (1 : Int32)) (fun v25 => fX4_insert_3 k31 n y1 y3 y5 v25 M))))
def fX4_insert_62 (M : Mem) : Option Mem := some M
def fX4_insert_69 (k130 : Int64 → Int64 → Int64 → Int32 → Mem → Option Mem) : Nat → Int64 → Int64 → Int64 → Int32 → Int32 → Mem → Option Mem
  | 0, _, _, _, _, _, _ => none
  | n + 1, y1, y3, y5, x7, x8, M => (if x8 ≤ x7 then k130 y1 y3 y5 x7 M else (if inb (x8 - (1 : Int32)) 15 = true then (if inb x8 15 = true then nx (sL M 31 (ix x8) (M.2 31 (ix (x8 - (1 : Int32))))) (fun M91 => (if inb (x8 - (1 : Int32)) 15 = true then (if inb x8 15 = true then nx (sL M91 32 (ix x8) (M91.2 32 (ix (x8 - (1 : Int32))))) (fun M107 => (if inb (x8 - (1 : Int32)) 15 = true then (if inb x8 15 = true then nx (sL M107 33 (ix x8) (M107.2 33 (ix (x8 - (1 : Int32))))) (fun M123 => nx (x8 + (-1 : Int32)) (fun v124 => fX4_insert_69 k130 n y1 y3 y5 x7 v124 M123)) else none) else none)) else none) else none)) else none) else none))
def fX4_insert_130 (y1 : Int64) (y3 : Int64) (y5 : Int64) (x7 : Int32) (M : Mem) : Option Mem := (if inb x7 15 = true then nx (sL M 31 (ix x7) y1) (fun M137 => (if inb x7 15 = true then nx (sL M137 32 (ix x7) y3) (fun M145 => (if inb x7 15 = true then nx (sL M145 33 (ix x7) y5) (fun M154 => nx (sI M154 30 5 ((M154.1 30 5) + (1 : Int32))) (fun M162 => some M162)) else none)) else none)) else none)
def fX4_insert_63 (y1 : Int64) (y3 : Int64) (y5 : Int64) (x7 : Int32) (M : Mem) : Option Mem := nx (M.1 30 5) (fun v67 => fX4_insert_69 fX4_insert_130 FU y1 y3 y5 x7 v67 M)
def fX4_insert_31 (y1 : Int64) (y3 : Int64) (y5 : Int64) (x7 : Int32) (M : Mem) : Option Mem := (if (15 : Int32) ≤ (M.1 30 5) then fX4_insert_62 M else (if (M.1 30 5) ≤ x7 then fX4_insert_63 y1 y3 y5 x7 M else (fX4_order M x7 y1 y3 y5).bind (fun q56 => (if q56 = 0 then fX4_insert_62 M else fX4_insert_63 y1 y3 y5 x7 M))))
def fX4_insert (y1 : Int64) (y3 : Int64) (y5 : Int64) (M : Mem) : Option Mem := fX4_insert_3 fX4_insert_31 FU y1 y3 y5 (0 : Int32) M
set_option maxHeartbeats 4000000 in
set_option maxRecDepth 100000 in
theorem wX4_insert_3 {M1 : Mem} {k31 : Int64 → Int64 → Int64 → Int32 → Mem → Option Mem} (X : CX E p s m args c meth cX4_insert 9 none RX4) (hk31 : ∀ {y1 : Int64} {y3 : Int64} {y5 : Int64} {x7 : Int32} {M : Mem} {H : Heap} {locs : List Loc} {ls : Array Slot}, k31 y1 y3 y5 x7 M = some M1 → Rl E (sh_ b) (nn b) s.heap M H locs → lv_has ls 9 [(0, .ref (eB E + 30)), (1, .long y1), (3, .long y3), (5, .long y5), (7, .int x7)] → W p l e (rm 3 0 0) s m args below meth c H locs 0 0 (MQ below (qq E none (sh_ b) (nn b) M1) args s 0 0 (fr E)) (F0 m 31 ls [])) : ∀ (n : Nat) {y1 : Int64} {y3 : Int64} {y5 : Int64} {x7 : Int32} {M : Mem} {H : Heap} {locs : List Loc} {ls : Array Slot}, fX4_insert_3 k31 n y1 y3 y5 x7 M = some M1 → Rl E (sh_ b) (nn b) s.heap M H locs → lv_has ls 9 [(0, .ref (eB E + 30)), (1, .long y1), (3, .long y3), (5, .long y5), (7, .int x7)] → W p l e (rm 3 0 0) s m args below meth c H locs 0 0 (MQ below (qq E none (sh_ b) (nn b) M1) args s 0 0 (fr E)) (F0 m 3 ls []) := by
  obtain ⟨hx, hb, hr, hml, hown, hts, hK, hN, hO, hlk, hbs⟩ := id X
  intro n
  induction n with
  | zero =>
    intro y1 y3 y5 x7 M H locs ls hf hR hl
    exact absurd (show none = some _ from hf) (fun h => by cases h)
  | succ n ih =>
    intro y1 y3 y5 x7 M H locs ls hf hR hl
    rw [fX4_insert_3] at hf
    refine lv_iload hx hb dX4_insert_3 (lv_at hl 4 rfl) ?_
    refine lv_aload_n hx hb dX4_insert_5 rfl (lv_at hl 0 rfl) ?_
    refine x_get hx hb hown hts hK hR kX4 (z_30 b) (j := 5) (by decide) fl_X4_45 (v := .int (M.1 30 5)) rfl dX4_insert_6 ?_
    refine lv_icmp_ge (tgt := 31) hx hb dX4_insert_9 (by decide) (fun q9 => ?_) (fun q9 => ?_)
    · have hf := (br_if hf).1 q9
      exact hk31 hf hR hl
    · have hf := (br_if hf).2 q9
      refine lv_aload_n hx hb dX4_insert_12 rfl (lv_at hl 0 rfl) ?_
      refine lv_iload hx hb dX4_insert_13 (lv_at hl 4 rfl) ?_
      refine lv_lload_n hx hb dX4_insert_15 rfl (lv_at hl 1 rfl) ?_
      refine lv_lload_n hx hb dX4_insert_16 rfl (lv_at hl 2 rfl) ?_
      refine lv_lload hx hb dX4_insert_17 (lv_at hl 3 rfl) ?_
      obtain ⟨q19, c19, hf⟩ := br_b hf
      refine x_callV (k := 30) (As := [.int x7, .long y1, .long y3, .long y5]) (rest := []) (st1 := [.int q19]) X hR (ctX4_order c19) ml_X4_105 im_X4_order se_X4_order in_X4 co_X4_order yo_X4_order rfl kX4 (z_30 b) (rm_ok (by decide) (by decide)) rfl hl.1 rfl rfl (Nat.le_of_ble_eq_true rfl) dX4_insert_19 ⟨Nat.zero_le _, Nat.zero_le _⟩ (fun H locs hR => ?_)
      refine lv_if_ge (tgt := 31) hx hb dX4_insert_22 (by decide) (fun q22 => ?_) (fun q22 => ?_)
      · have hf := (br_if hf).1 q22
        exact hk31 hf hR hl
      · have hf := (br_if hf).2 q22
        obtain ⟨v25, e25⟩ : ∃ y : Int32, y = (x7 + (1 : Int32)) := ⟨_, rfl⟩
        have hf := nx_at e25 hf
        refine lv_iinc (v := v25) (lv' := [(7, .int v25), (0, .ref (eB E + 30)), (1, .long y1), (3, .long y3), (5, .long y5)]) hx hb dX4_insert_25 hl (k := 4) rfl (by rw [e25]; rfl) (by decide) rfl (fun ls hl => ?_)
        refine lv_goto (tgt := 3) hx hb dX4_insert_28 (by decide) ?_
        exact ih hf hR (lv_sub hl [1, 2, 3, 4, 0] rfl)
set_option maxHeartbeats 4000000 in
set_option maxRecDepth 100000 in
theorem wX4_insert_62 {M1 : Mem} (X : CX E p s m args c meth cX4_insert 9 none RX4) : ∀ {M : Mem} {H : Heap} {locs : List Loc} {ls : Array Slot}, fX4_insert_62 M = some M1 → Rl E (sh_ b) (nn b) s.heap M H locs → lv_has ls 9 [] → W p l e (rm 3 0 0) s m args below meth c H locs 0 0 (MQ below (qq E none (sh_ b) (nn b) M1) args s 0 0 (fr E)) (F0 m 62 ls []) := by
  obtain ⟨hx, hb, hr, hml, hown, hts, hK, hN, hO, hlk, hbs⟩ := id X
  intro M H locs ls hf hR hl
  unfold fX4_insert_62 at hf
  cases hf
  exact x_vret hx hb hr hlk hR dX4_insert_62
set_option maxHeartbeats 4000000 in
set_option maxRecDepth 100000 in
theorem wX4_insert_69 {M1 : Mem} {k130 : Int64 → Int64 → Int64 → Int32 → Mem → Option Mem} (X : CX E p s m args c meth cX4_insert 9 none RX4) (hk130 : ∀ {y1 : Int64} {y3 : Int64} {y5 : Int64} {x7 : Int32} {M : Mem} {H : Heap} {locs : List Loc} {ls : Array Slot}, k130 y1 y3 y5 x7 M = some M1 → Rl E (sh_ b) (nn b) s.heap M H locs → lv_has ls 9 [(0, .ref (eB E + 30)), (1, .long y1), (3, .long y3), (5, .long y5), (7, .int x7)] → W p l e (rm 3 0 0) s m args below meth c H locs 0 0 (MQ below (qq E none (sh_ b) (nn b) M1) args s 0 0 (fr E)) (F0 m 130 ls [])) : ∀ (n : Nat) {y1 : Int64} {y3 : Int64} {y5 : Int64} {x7 : Int32} {x8 : Int32} {M : Mem} {H : Heap} {locs : List Loc} {ls : Array Slot}, fX4_insert_69 k130 n y1 y3 y5 x7 x8 M = some M1 → Rl E (sh_ b) (nn b) s.heap M H locs → lv_has ls 9 [(0, .ref (eB E + 30)), (1, .long y1), (3, .long y3), (5, .long y5), (7, .int x7), (8, .int x8)] → W p l e (rm 3 0 0) s m args below meth c H locs 0 0 (MQ below (qq E none (sh_ b) (nn b) M1) args s 0 0 (fr E)) (F0 m 69 ls []) := by
  obtain ⟨hx, hb, hr, hml, hown, hts, hK, hN, hO, hlk, hbs⟩ := id X
  intro n
  induction n with
  | zero =>
    intro y1 y3 y5 x7 x8 M H locs ls hf hR hl
    exact absurd (show none = some _ from hf) (fun h => by cases h)
  | succ n ih =>
    intro y1 y3 y5 x7 x8 M H locs ls hf hR hl
    rw [fX4_insert_69] at hf
    refine lv_iload hx hb dX4_insert_69 (lv_at hl 5 rfl) ?_
    refine lv_iload hx hb dX4_insert_71 (lv_at hl 4 rfl) ?_
    refine lv_icmp_le (tgt := 130) hx hb dX4_insert_73 (by decide) (fun q73 => ?_) (fun q73 => ?_)
    · have hf := (br_if hf).1 q73
      exact hk130 hf hR (lv_sub hl [0, 1, 2, 3, 4] rfl)
    · have hf := (br_if hf).2 q73
      refine lv_aload_n hx hb dX4_insert_76 rfl (lv_at hl 0 rfl) ?_
      refine x_get hx hb hown hts hK hR kX4 (z_30 b) (j := 2) (by decide) fl_X4_11 (v := .ref (eB E + 31)) rfl dX4_insert_77 ?_
      refine lv_iload hx hb dX4_insert_80 (lv_at hl 5 rfl) ?_
      refine lv_aload_n hx hb dX4_insert_82 rfl (lv_at hl 0 rfl) ?_
      refine x_get hx hb hown hts hK hR kX4 (z_30 b) (j := 2) (by decide) fl_X4_11 (v := .ref (eB E + 31)) rfl dX4_insert_83 ?_
      refine lv_iload hx hb dX4_insert_86 (lv_at hl 5 rfl) ?_
      refine lv_iconst (v := 1) hx hb dX4_insert_88 (by decide) ?_
      refine lv_isub hx hb dX4_insert_89 ?_
      obtain ⟨g90, hf⟩ := br_g hf
      refine x_lald hx hb hK hR (z_31 b) g90 dX4_insert_90 ?_
      obtain ⟨g91, hf⟩ := br_g hf
      refine x_last hx hb hK hR (z_31 b) g91 dX4_insert_91 (fun H locs hR => ?_)
      obtain ⟨M91, e91⟩ : ∃ y : Mem, y = (sL M 31 (ix x8) (M.2 31 (ix (x8 - (1 : Int32))))) := ⟨_, rfl⟩
      have hf := nx_at e91 hf
      have hR : Rl E (sh_ b) (nn b) s.heap M91 H locs := by rw [e91]; exact hR
      refine lv_aload_n hx hb dX4_insert_92 rfl (lv_at hl 0 rfl) ?_
      refine x_get hx hb hown hts hK hR kX4 (z_30 b) (j := 3) (by decide) fl_X4_15 (v := .ref (eB E + 32)) rfl dX4_insert_93 ?_
      refine lv_iload hx hb dX4_insert_96 (lv_at hl 5 rfl) ?_
      refine lv_aload_n hx hb dX4_insert_98 rfl (lv_at hl 0 rfl) ?_
      refine x_get hx hb hown hts hK hR kX4 (z_30 b) (j := 3) (by decide) fl_X4_15 (v := .ref (eB E + 32)) rfl dX4_insert_99 ?_
      refine lv_iload hx hb dX4_insert_102 (lv_at hl 5 rfl) ?_
      refine lv_iconst (v := 1) hx hb dX4_insert_104 (by decide) ?_
      refine lv_isub hx hb dX4_insert_105 ?_
      obtain ⟨g106, hf⟩ := br_g hf
      refine x_lald hx hb hK hR (z_32 b) g106 dX4_insert_106 ?_
      obtain ⟨g107, hf⟩ := br_g hf
      refine x_last hx hb hK hR (z_32 b) g107 dX4_insert_107 (fun H locs hR => ?_)
      obtain ⟨M107, e107⟩ : ∃ y : Mem, y = (sL M91 32 (ix x8) (M91.2 32 (ix (x8 - (1 : Int32))))) := ⟨_, rfl⟩
      have hf := nx_at e107 hf
      have hR : Rl E (sh_ b) (nn b) s.heap M107 H locs := by rw [e107]; exact hR
      refine lv_aload_n hx hb dX4_insert_108 rfl (lv_at hl 0 rfl) ?_
      refine x_get hx hb hown hts hK hR kX4 (z_30 b) (j := 4) (by decide) fl_X4_18 (v := .ref (eB E + 33)) rfl dX4_insert_109 ?_
      refine lv_iload hx hb dX4_insert_112 (lv_at hl 5 rfl) ?_
      refine lv_aload_n hx hb dX4_insert_114 rfl (lv_at hl 0 rfl) ?_
      refine x_get hx hb hown hts hK hR kX4 (z_30 b) (j := 4) (by decide) fl_X4_18 (v := .ref (eB E + 33)) rfl dX4_insert_115 ?_
      refine lv_iload hx hb dX4_insert_118 (lv_at hl 5 rfl) ?_
      refine lv_iconst (v := 1) hx hb dX4_insert_120 (by decide) ?_
      refine lv_isub hx hb dX4_insert_121 ?_
      obtain ⟨g122, hf⟩ := br_g hf
      refine x_lald hx hb hK hR (z_33 b) g122 dX4_insert_122 ?_
      obtain ⟨g123, hf⟩ := br_g hf
      refine x_last hx hb hK hR (z_33 b) g123 dX4_insert_123 (fun H locs hR => ?_)
      obtain ⟨M123, e123⟩ : ∃ y : Mem, y = (sL M107 33 (ix x8) (M107.2 33 (ix (x8 - (1 : Int32))))) := ⟨_, rfl⟩
      have hf := nx_at e123 hf
      have hR : Rl E (sh_ b) (nn b) s.heap M123 H locs := by rw [e123]; exact hR
      obtain ⟨v124, e124⟩ : ∃ y : Int32, y = (x8 + (-1 : Int32)) := ⟨_, rfl⟩
      have hf := nx_at e124 hf
      refine lv_iinc (v := v124) (lv' := [(8, .int v124), (0, .ref (eB E + 30)), (1, .long y1), (3, .long y3), (5, .long y5), (7, .int x7)]) hx hb dX4_insert_124 hl (k := 5) rfl (by rw [e124]; rfl) (by decide) rfl (fun ls hl => ?_)
      refine lv_goto (tgt := 69) hx hb dX4_insert_127 (by decide) ?_
      exact ih hf hR (lv_sub hl [1, 2, 3, 4, 5, 0] rfl)
set_option maxHeartbeats 4000000 in
set_option maxRecDepth 100000 in
theorem wX4_insert_130 {M1 : Mem} (X : CX E p s m args c meth cX4_insert 9 none RX4) : ∀ {y1 : Int64} {y3 : Int64} {y5 : Int64} {x7 : Int32} {M : Mem} {H : Heap} {locs : List Loc} {ls : Array Slot}, fX4_insert_130 y1 y3 y5 x7 M = some M1 → Rl E (sh_ b) (nn b) s.heap M H locs → lv_has ls 9 [(0, .ref (eB E + 30)), (1, .long y1), (3, .long y3), (5, .long y5), (7, .int x7)] → W p l e (rm 3 0 0) s m args below meth c H locs 0 0 (MQ below (qq E none (sh_ b) (nn b) M1) args s 0 0 (fr E)) (F0 m 130 ls []) := by
  obtain ⟨hx, hb, hr, hml, hown, hts, hK, hN, hO, hlk, hbs⟩ := id X
  intro y1 y3 y5 x7 M H locs ls hf hR hl
  unfold fX4_insert_130 at hf
  refine lv_aload_n hx hb dX4_insert_130 rfl (lv_at hl 0 rfl) ?_
  refine x_get hx hb hown hts hK hR kX4 (z_30 b) (j := 2) (by decide) fl_X4_11 (v := .ref (eB E + 31)) rfl dX4_insert_131 ?_
  refine lv_iload hx hb dX4_insert_134 (lv_at hl 4 rfl) ?_
  refine lv_lload_n hx hb dX4_insert_136 rfl (lv_at hl 1 rfl) ?_
  obtain ⟨g137, hf⟩ := br_g hf
  refine x_last hx hb hK hR (z_31 b) g137 dX4_insert_137 (fun H locs hR => ?_)
  obtain ⟨M137, e137⟩ : ∃ y : Mem, y = (sL M 31 (ix x7) y1) := ⟨_, rfl⟩
  have hf := nx_at e137 hf
  have hR : Rl E (sh_ b) (nn b) s.heap M137 H locs := by rw [e137]; exact hR
  refine lv_aload_n hx hb dX4_insert_138 rfl (lv_at hl 0 rfl) ?_
  refine x_get hx hb hown hts hK hR kX4 (z_30 b) (j := 3) (by decide) fl_X4_15 (v := .ref (eB E + 32)) rfl dX4_insert_139 ?_
  refine lv_iload hx hb dX4_insert_142 (lv_at hl 4 rfl) ?_
  refine lv_lload_n hx hb dX4_insert_144 rfl (lv_at hl 2 rfl) ?_
  obtain ⟨g145, hf⟩ := br_g hf
  refine x_last hx hb hK hR (z_32 b) g145 dX4_insert_145 (fun H locs hR => ?_)
  obtain ⟨M145, e145⟩ : ∃ y : Mem, y = (sL M137 32 (ix x7) y3) := ⟨_, rfl⟩
  have hf := nx_at e145 hf
  have hR : Rl E (sh_ b) (nn b) s.heap M145 H locs := by rw [e145]; exact hR
  refine lv_aload_n hx hb dX4_insert_146 rfl (lv_at hl 0 rfl) ?_
  refine x_get hx hb hown hts hK hR kX4 (z_30 b) (j := 4) (by decide) fl_X4_18 (v := .ref (eB E + 33)) rfl dX4_insert_147 ?_
  refine lv_iload hx hb dX4_insert_150 (lv_at hl 4 rfl) ?_
  refine lv_lload hx hb dX4_insert_152 (lv_at hl 3 rfl) ?_
  obtain ⟨g154, hf⟩ := br_g hf
  refine x_last hx hb hK hR (z_33 b) g154 dX4_insert_154 (fun H locs hR => ?_)
  obtain ⟨M154, e154⟩ : ∃ y : Mem, y = (sL M145 33 (ix x7) y5) := ⟨_, rfl⟩
  have hf := nx_at e154 hf
  have hR : Rl E (sh_ b) (nn b) s.heap M154 H locs := by rw [e154]; exact hR
  refine lv_aload_n hx hb dX4_insert_155 rfl (lv_at hl 0 rfl) ?_
  refine lv_dup hx hb dX4_insert_156 rfl ?_
  refine x_get hx hb hown hts hK hR kX4 (z_30 b) (j := 5) (by decide) fl_X4_45 (v := .int (M154.1 30 5)) rfl dX4_insert_157 ?_
  refine lv_iconst (v := 1) hx hb dX4_insert_160 (by decide) ?_
  refine lv_iadd hx hb dX4_insert_161 ?_
  refine x_puti hx hb hown hts hK hR kX4 (z_30 b) (j := 5) (by decide) fl_X4_45 rfl rfl rfl rfl dX4_insert_162 (fun H locs hR => ?_)
  obtain ⟨M162, e162⟩ : ∃ y : Mem, y = (sI M154 30 5 ((M154.1 30 5) + (1 : Int32))) := ⟨_, rfl⟩
  have hf := nx_at e162 hf
  have hR : Rl E (sh_ b) (nn b) s.heap M162 H locs := by rw [e162]; exact hR
  cases hf
  exact x_vret hx hb hr hlk hR dX4_insert_165
set_option maxHeartbeats 4000000 in
set_option maxRecDepth 100000 in
theorem wX4_insert_63 {M1 : Mem} (X : CX E p s m args c meth cX4_insert 9 none RX4) : ∀ {y1 : Int64} {y3 : Int64} {y5 : Int64} {x7 : Int32} {M : Mem} {H : Heap} {locs : List Loc} {ls : Array Slot}, fX4_insert_63 y1 y3 y5 x7 M = some M1 → Rl E (sh_ b) (nn b) s.heap M H locs → lv_has ls 9 [(0, .ref (eB E + 30)), (1, .long y1), (3, .long y3), (5, .long y5), (7, .int x7)] → W p l e (rm 3 0 0) s m args below meth c H locs 0 0 (MQ below (qq E none (sh_ b) (nn b) M1) args s 0 0 (fr E)) (F0 m 63 ls []) := by
  obtain ⟨hx, hb, hr, hml, hown, hts, hK, hN, hO, hlk, hbs⟩ := id X
  intro y1 y3 y5 x7 M H locs ls hf hR hl
  unfold fX4_insert_63 at hf
  refine lv_aload_n hx hb dX4_insert_63 rfl (lv_at hl 0 rfl) ?_
  refine x_get hx hb hown hts hK hR kX4 (z_30 b) (j := 5) (by decide) fl_X4_45 (v := .int (M.1 30 5)) rfl dX4_insert_64 ?_
  refine lv_topi (fun v67 e67 => ?_)
  have hf := nx_at e67 hf
  refine lv_istore (lv' := [(8, .int v67), (0, .ref (eB E + 30)), (1, .long y1), (3, .long y3), (5, .long y5), (7, .int x7)]) hx hb dX4_insert_67 hl (by decide) rfl (fun ls hl => ?_)
  exact wX4_insert_69 X (fun hf hR hl => wX4_insert_130 X hf hR hl) FU hf hR (lv_sub hl [1, 2, 3, 4, 5, 0] rfl)
set_option maxHeartbeats 4000000 in
set_option maxRecDepth 100000 in
theorem wX4_insert_31 {M1 : Mem} (X : CX E p s m args c meth cX4_insert 9 none RX4) : ∀ {y1 : Int64} {y3 : Int64} {y5 : Int64} {x7 : Int32} {M : Mem} {H : Heap} {locs : List Loc} {ls : Array Slot}, fX4_insert_31 y1 y3 y5 x7 M = some M1 → Rl E (sh_ b) (nn b) s.heap M H locs → lv_has ls 9 [(0, .ref (eB E + 30)), (1, .long y1), (3, .long y3), (5, .long y5), (7, .int x7)] → W p l e (rm 3 0 0) s m args below meth c H locs 0 0 (MQ below (qq E none (sh_ b) (nn b) M1) args s 0 0 (fr E)) (F0 m 31 ls []) := by
  obtain ⟨hx, hb, hr, hml, hown, hts, hK, hN, hO, hlk, hbs⟩ := id X
  intro y1 y3 y5 x7 M H locs ls hf hR hl
  unfold fX4_insert_31 at hf
  refine lv_aload_n hx hb dX4_insert_31 rfl (lv_at hl 0 rfl) ?_
  refine x_get hx hb hown hts hK hR kX4 (z_30 b) (j := 5) (by decide) fl_X4_45 (v := .int (M.1 30 5)) rfl dX4_insert_32 ?_
  refine lv_bipush (v := 15) hx hb dX4_insert_35 (by decide) ?_
  refine lv_icmp_ge (tgt := 62) hx hb dX4_insert_37 (by decide) (fun q37 => ?_) (fun q37 => ?_)
  · have hf := (br_if hf).1 q37
    exact wX4_insert_62 X hf hR (lv_sub hl [] rfl)
  · have hf := (br_if hf).2 q37
    refine lv_iload hx hb dX4_insert_40 (lv_at hl 4 rfl) ?_
    refine lv_aload_n hx hb dX4_insert_42 rfl (lv_at hl 0 rfl) ?_
    refine x_get hx hb hown hts hK hR kX4 (z_30 b) (j := 5) (by decide) fl_X4_45 (v := .int (M.1 30 5)) rfl dX4_insert_43 ?_
    refine lv_icmp_ge (tgt := 63) hx hb dX4_insert_46 (by decide) (fun q46 => ?_) (fun q46 => ?_)
    · have hf := (br_if hf).1 q46
      exact wX4_insert_63 X hf hR hl
    · have hf := (br_if hf).2 q46
      refine lv_aload_n hx hb dX4_insert_49 rfl (lv_at hl 0 rfl) ?_
      refine lv_iload hx hb dX4_insert_50 (lv_at hl 4 rfl) ?_
      refine lv_lload_n hx hb dX4_insert_52 rfl (lv_at hl 1 rfl) ?_
      refine lv_lload_n hx hb dX4_insert_53 rfl (lv_at hl 2 rfl) ?_
      refine lv_lload hx hb dX4_insert_54 (lv_at hl 3 rfl) ?_
      obtain ⟨q56, c56, hf⟩ := br_b hf
      refine x_callV (k := 30) (As := [.int x7, .long y1, .long y3, .long y5]) (rest := []) (st1 := [.int q56]) X hR (ctX4_order c56) ml_X4_105 im_X4_order se_X4_order in_X4 co_X4_order yo_X4_order rfl kX4 (z_30 b) (rm_ok (by decide) (by decide)) rfl hl.1 rfl rfl (Nat.le_of_ble_eq_true rfl) dX4_insert_56 ⟨Nat.zero_le _, Nat.zero_le _⟩ (fun H locs hR => ?_)
      refine lv_if_ne (tgt := 63) hx hb dX4_insert_59 (by decide) (fun q59 => ?_) (fun q59 => ?_)
      · have hf := (br_if hf).2 q59
        exact wX4_insert_63 X hf hR hl
      · have hf := (br_if hf).1 q59
        exact wX4_insert_62 X hf hR (lv_sub hl [] rfl)
set_option maxHeartbeats 4000000 in
set_option maxRecDepth 100000 in
theorem wX4_insert_0 {M1 : Mem} (X : CX E p s m args c meth cX4_insert 9 none RX4) : ∀ {y1 : Int64} {y3 : Int64} {y5 : Int64} {M : Mem} {H : Heap} {locs : List Loc} {ls : Array Slot}, fX4_insert y1 y3 y5 M = some M1 → Rl E (sh_ b) (nn b) s.heap M H locs → lv_has ls 9 [(0, .ref (eB E + 30)), (1, .long y1), (3, .long y3), (5, .long y5)] → W p l e (rm 3 0 0) s m args below meth c H locs 0 0 (MQ below (qq E none (sh_ b) (nn b) M1) args s 0 0 (fr E)) (F0 m 0 ls []) := by
  obtain ⟨hx, hb, hr, hml, hown, hts, hK, hN, hO, hlk, hbs⟩ := id X
  intro y1 y3 y5 M H locs ls hf hR hl
  unfold fX4_insert at hf
  refine lv_iconst (v := 0) hx hb dX4_insert_0 (by decide) ?_
  refine lv_istore (lv' := [(7, .int (0 : Int32)), (0, .ref (eB E + 30)), (1, .long y1), (3, .long y3), (5, .long y5)]) hx hb dX4_insert_1 hl (by decide) rfl (fun ls hl => ?_)
  exact wX4_insert_3 X (fun hf hR hl => wX4_insert_31 X hf hR hl) FU hf hR (lv_sub hl [1, 2, 3, 4, 0] rfl)
theorem ctX4_insert {l : Launch} {E : Ge} {b : Bool} {M : Mem} {y1 : Int64} {y3 : Int64} {y5 : Int64} {M1 : Mem} (h : fX4_insert y1 y3 y5 M = some M1) : CT l E yX4_insert cX4_insert 9 none 3 0 0 [.ref (eB E + 30), .long y1, .long y3, .long y5] none (sh_ b) (nn b) M (sh_ b) (nn b) M1 := by
  refine met_of (by decide) (Nat.le_of_ble_eq_true rfl) ?_
  intro p e s m args below meth c X _ hR ls hl
  exact wX4_insert_0 X h hR hl
def fX4_ask_74 (M : Mem) : Option Mem := some M
def fX4_ask_24 (y1 : Int64) (y3 : Int64) (y5 : Int64) (y7 : Int64) (M : Mem) : Option Mem := (if (lg_cmp y7 (0 : Int64)) = 0 then some M else (if ¬ y7 = 0 then nx (y1 / y7) (fun v36 => (if ¬ y7 = 0 then nx (y3 / y7) (fun v42 => (if ¬ y7 = 0 then nx (y5 / y7) (fun v49 => (fX4_isMiddle M v36 v42 v49).bind (fun q58 => (if q58 = 0 then fX4_ask_74 M else (fX4_insert v36 v42 v49 M).bind (fun q71 => fX4_ask_74 q71)))) else none)) else none)) else none))
def fX4_ask (y1 : Int64) (y3 : Int64) (y5 : Int64) (M : Mem) : Option Mem := (fX10_commonPart M y1 y3).bind (fun q2 => (fX10_commonPart M q2 y5).bind (fun q7 => (if 0 ≤ (lg_cmp y5 (0 : Int64)) then fX4_ask_24 y1 y3 y5 q7 M else nx (-q7) (fun v22 => fX4_ask_24 y1 y3 y5 v22 M))))
set_option maxHeartbeats 4000000 in
set_option maxRecDepth 100000 in
theorem wX4_ask_74 {M1 : Mem} (X : CX E p s m args c meth cX4_ask 15 none RX4) : ∀ {M : Mem} {H : Heap} {locs : List Loc} {ls : Array Slot}, fX4_ask_74 M = some M1 → Rl E (sh_ b) (nn b) s.heap M H locs → lv_has ls 15 [] → W p l e (rm 4 0 0) s m args below meth c H locs 0 0 (MQ below (qq E none (sh_ b) (nn b) M1) args s 0 0 (fr E)) (F0 m 74 ls []) := by
  obtain ⟨hx, hb, hr, hml, hown, hts, hK, hN, hO, hlk, hbs⟩ := id X
  intro M H locs ls hf hR hl
  unfold fX4_ask_74 at hf
  cases hf
  exact x_vret hx hb hr hlk hR dX4_ask_74
set_option maxHeartbeats 4000000 in
set_option maxRecDepth 100000 in
theorem wX4_ask_24 {M1 : Mem} (X : CX E p s m args c meth cX4_ask 15 none RX4) : ∀ {y1 : Int64} {y3 : Int64} {y5 : Int64} {y7 : Int64} {M : Mem} {H : Heap} {locs : List Loc} {ls : Array Slot}, fX4_ask_24 y1 y3 y5 y7 M = some M1 → Rl E (sh_ b) (nn b) s.heap M H locs → lv_has ls 15 [(0, .ref (eB E + 30)), (1, .long y1), (3, .long y3), (5, .long y5), (7, .long y7)] → W p l e (rm 4 0 0) s m args below meth c H locs 0 0 (MQ below (qq E none (sh_ b) (nn b) M1) args s 0 0 (fr E)) (F0 m 24 ls []) := by
  obtain ⟨hx, hb, hr, hml, hown, hts, hK, hN, hO, hlk, hbs⟩ := id X
  intro y1 y3 y5 y7 M H locs ls hf hR hl
  unfold fX4_ask_24 at hf
  refine lv_lload hx hb dX4_ask_24 (lv_at hl 4 rfl) ?_
  refine lv_lconst (v := 0) hx hb dX4_ask_26 (by decide) ?_
  refine W.lcmp hx hb dX4_ask_27 ?_
  refine lv_if_ne (tgt := 32) hx hb dX4_ask_28 (by decide) (fun q28 => ?_) (fun q28 => ?_)
  · have hf := (br_if hf).2 q28
    refine lv_lload_n hx hb dX4_ask_32 rfl (lv_at hl 1 rfl) ?_
    refine lv_lload hx hb dX4_ask_33 (lv_at hl 4 rfl) ?_
    obtain ⟨g35, hf⟩ := br_g hf
    refine lv_ldiv hx hb dX4_ask_35 g35 ?_
    refine lv_topl (fun v36 e36 => ?_)
    have hf := nx_at e36 hf
    refine lv_lstore (lv' := [(9, .long v36), (0, .ref (eB E + 30)), (1, .long y1), (3, .long y3), (5, .long y5), (7, .long y7)]) hx hb dX4_ask_36 hl (by decide) rfl (fun ls hl => ?_)
    refine lv_lload_n hx hb dX4_ask_38 rfl (lv_at hl 3 rfl) ?_
    refine lv_lload hx hb dX4_ask_39 (lv_at hl 5 rfl) ?_
    obtain ⟨g41, hf⟩ := br_g hf
    refine lv_ldiv hx hb dX4_ask_41 g41 ?_
    refine lv_topl (fun v42 e42 => ?_)
    have hf := nx_at e42 hf
    refine lv_lstore (lv' := [(11, .long v42), (9, .long v36), (0, .ref (eB E + 30)), (1, .long y1), (3, .long y3), (5, .long y5), (7, .long y7)]) hx hb dX4_ask_42 hl (by decide) rfl (fun ls hl => ?_)
    refine lv_lload hx hb dX4_ask_44 (lv_at hl 5 rfl) ?_
    refine lv_lload hx hb dX4_ask_46 (lv_at hl 6 rfl) ?_
    obtain ⟨g48, hf⟩ := br_g hf
    refine lv_ldiv hx hb dX4_ask_48 g48 ?_
    refine lv_topl (fun v49 e49 => ?_)
    have hf := nx_at e49 hf
    refine lv_lstore (lv' := [(13, .long v49), (11, .long v42), (9, .long v36), (0, .ref (eB E + 30)), (1, .long y1), (3, .long y3), (5, .long y5), (7, .long y7)]) hx hb dX4_ask_49 hl (by decide) rfl (fun ls hl => ?_)
    refine lv_aload_n hx hb dX4_ask_51 rfl (lv_at hl 3 rfl) ?_
    refine lv_lload hx hb dX4_ask_52 (lv_at hl 2 rfl) ?_
    refine lv_lload hx hb dX4_ask_54 (lv_at hl 1 rfl) ?_
    refine lv_lload hx hb dX4_ask_56 (lv_at hl 0 rfl) ?_
    obtain ⟨q58, c58, hf⟩ := br_b hf
    refine x_callV (k := 30) (As := [.long v36, .long v42, .long v49]) (rest := []) (st1 := [.int q58]) X hR (ctX4_isMiddle c58) ml_X4_87 im_X4_isMiddle se_X4_isMiddle in_X4 co_X4_isMiddle yo_X4_isMiddle rfl kX4 (z_30 b) (rm_ok (by decide) (by decide)) rfl hl.1 rfl rfl (Nat.le_of_ble_eq_true rfl) dX4_ask_58 ⟨Nat.zero_le _, Nat.zero_le _⟩ (fun H locs hR => ?_)
    refine lv_if_eq (tgt := 74) hx hb dX4_ask_61 (by decide) (fun q61 => ?_) (fun q61 => ?_)
    · have hf := (br_if hf).1 q61
      exact wX4_ask_74 X hf hR (lv_sub hl [] rfl)
    · have hf := (br_if hf).2 q61
      refine lv_aload_n hx hb dX4_ask_64 rfl (lv_at hl 3 rfl) ?_
      refine lv_lload hx hb dX4_ask_65 (lv_at hl 2 rfl) ?_
      refine lv_lload hx hb dX4_ask_67 (lv_at hl 1 rfl) ?_
      refine lv_lload hx hb dX4_ask_69 (lv_at hl 0 rfl) ?_
      obtain ⟨q71, c71, hf⟩ := br_b hf
      refine x_callV (k := 30) (As := [.long v36, .long v42, .long v49]) (rest := []) (st1 := []) X hR (ctX4_insert c71) ml_X4_91 im_X4_insert se_X4_insert in_X4 co_X4_insert yo_X4_insert rfl kX4 (z_30 b) (rm_ok (by decide) (by decide)) rfl hl.1 rfl rfl (Nat.le_of_ble_eq_true rfl) dX4_ask_71 ⟨Nat.zero_le _, Nat.zero_le _⟩ (fun H locs hR => ?_)
      exact wX4_ask_74 X hf hR (lv_sub hl [] rfl)
  · have hf := (br_if hf).1 q28
    cases hf
    exact x_vret hx hb hr hlk hR dX4_ask_31
set_option maxHeartbeats 4000000 in
set_option maxRecDepth 100000 in
theorem wX4_ask_0 {M1 : Mem} (X : CX E p s m args c meth cX4_ask 15 none RX4) : ∀ {y1 : Int64} {y3 : Int64} {y5 : Int64} {M : Mem} {H : Heap} {locs : List Loc} {ls : Array Slot}, fX4_ask y1 y3 y5 M = some M1 → Rl E (sh_ b) (nn b) s.heap M H locs → lv_has ls 15 [(0, .ref (eB E + 30)), (1, .long y1), (3, .long y3), (5, .long y5)] → W p l e (rm 4 0 0) s m args below meth c H locs 0 0 (MQ below (qq E none (sh_ b) (nn b) M1) args s 0 0 (fr E)) (F0 m 0 ls []) := by
  obtain ⟨hx, hb, hr, hml, hown, hts, hK, hN, hO, hlk, hbs⟩ := id X
  intro y1 y3 y5 M H locs ls hf hR hl
  unfold fX4_ask at hf
  refine lv_lload_n hx hb dX4_ask_0 rfl (lv_at hl 1 rfl) ?_
  refine lv_lload_n hx hb dX4_ask_1 rfl (lv_at hl 2 rfl) ?_
  obtain ⟨q2, c2, hf⟩ := br_b hf
  refine x_callSN (As := [.long y1, .long y3]) (rest := []) (st1 := [.long q2]) X hR (ctX10_commonPart c2) (List.mem_of_getElem? (i := 5) rfl) st_X10_commonPart in_X10 co_X10_commonPart yo_X10_commonPart (rm_ok (by decide) (by decide)) rfl hl.1 rfl rfl (Nat.le_of_ble_eq_true rfl) dX4_ask_2 ⟨Nat.zero_le _, Nat.zero_le _⟩ (fun H locs hR => ?_)
  refine lv_lload hx hb dX4_ask_5 (lv_at hl 3 rfl) ?_
  obtain ⟨q7, c7, hf⟩ := br_b hf
  refine x_callSN (As := [.long q2, .long y5]) (rest := []) (st1 := [.long q7]) X hR (ctX10_commonPart c7) (List.mem_of_getElem? (i := 5) rfl) st_X10_commonPart in_X10 co_X10_commonPart yo_X10_commonPart (rm_ok (by decide) (by decide)) rfl hl.1 rfl rfl (Nat.le_of_ble_eq_true rfl) dX4_ask_7 ⟨Nat.zero_le _, Nat.zero_le _⟩ (fun H locs hR => ?_)
  refine lv_lstore (lv' := [(7, .long q7), (0, .ref (eB E + 30)), (1, .long y1), (3, .long y3), (5, .long y5)]) hx hb dX4_ask_10 hl (by decide) rfl (fun ls hl => ?_)
  refine lv_lload hx hb dX4_ask_12 (lv_at hl 4 rfl) ?_
  refine lv_lconst (v := 0) hx hb dX4_ask_14 (by decide) ?_
  refine W.lcmp hx hb dX4_ask_15 ?_
  refine lv_if_ge (tgt := 24) hx hb dX4_ask_16 (by decide) (fun q16 => ?_) (fun q16 => ?_)
  · have hf := (br_if hf).1 q16
    exact wX4_ask_24 X hf hR (lv_sub hl [1, 2, 3, 4, 0] rfl)
  · have hf := (br_if hf).2 q16
    refine lv_lload hx hb dX4_ask_19 (lv_at hl 0 rfl) ?_
    refine lv_lneg hx hb dX4_ask_21 ?_
    refine lv_topl (fun v22 e22 => ?_)
    have hf := nx_at e22 hf
    refine lv_lstore (lv' := [(7, .long v22), (0, .ref (eB E + 30)), (1, .long y1), (3, .long y3), (5, .long y5)]) hx hb dX4_ask_22 hl (by decide) rfl (fun ls hl => ?_)
    exact wX4_ask_24 X hf hR (lv_sub hl [1, 2, 3, 4, 0] rfl)
theorem ctX4_ask {l : Launch} {E : Ge} {b : Bool} {M : Mem} {y1 : Int64} {y3 : Int64} {y5 : Int64} {M1 : Mem} (h : fX4_ask y1 y3 y5 M = some M1) : CT l E yX4_ask cX4_ask 15 none 4 0 0 [.ref (eB E + 30), .long y1, .long y3, .long y5] none (sh_ b) (nn b) M (sh_ b) (nn b) M1 := by
  refine met_of (by decide) (Nat.le_of_ble_eq_true rfl) ?_
  intro p e s m args below meth c X _ hR ls hl
  exact wX4_ask_0 X h hR hl
def fX4_askCrossing_39 (M : Mem) : Option Mem := some M
def fX4_askCrossing (x1 : Int32) (x2 : Int32) (M : Mem) : Option Mem := (fX2_turnBetween M x1 x2).bind (fun q6 => (if (lg_cmp q6 (0 : Int64)) = 0 then fX4_askCrossing_39 M else (fX2_crossingX M x1 x2).bind (fun q23 => (fX2_crossingY M x1 x2).bind (fun q32 => (fX4_ask q23 q32 q6 M).bind (fun q36 => fX4_askCrossing_39 q36)))))
set_option maxHeartbeats 4000000 in
set_option maxRecDepth 100000 in
theorem wX4_askCrossing_39 {M1 : Mem} (X : CX E p s m args c meth cX4_askCrossing 5 none RX4) : ∀ {M : Mem} {H : Heap} {locs : List Loc} {ls : Array Slot}, fX4_askCrossing_39 M = some M1 → Rl E (sh_ b) (nn b) s.heap M H locs → lv_has ls 5 [] → W p l e (rm 5 0 0) s m args below meth c H locs 0 0 (MQ below (qq E none (sh_ b) (nn b) M1) args s 0 0 (fr E)) (F0 m 39 ls []) := by
  obtain ⟨hx, hb, hr, hml, hown, hts, hK, hN, hO, hlk, hbs⟩ := id X
  intro M H locs ls hf hR hl
  unfold fX4_askCrossing_39 at hf
  cases hf
  exact x_vret hx hb hr hlk hR dX4_askCrossing_39
set_option maxHeartbeats 4000000 in
set_option maxRecDepth 100000 in
theorem wX4_askCrossing_0 {M1 : Mem} (X : CX E p s m args c meth cX4_askCrossing 5 none RX4) : ∀ {x1 : Int32} {x2 : Int32} {M : Mem} {H : Heap} {locs : List Loc} {ls : Array Slot}, fX4_askCrossing x1 x2 M = some M1 → Rl E (sh_ b) (nn b) s.heap M H locs → lv_has ls 5 [(0, .ref (eB E + 30)), (1, .int x1), (2, .int x2)] → W p l e (rm 5 0 0) s m args below meth c H locs 0 0 (MQ below (qq E none (sh_ b) (nn b) M1) args s 0 0 (fr E)) (F0 m 0 ls []) := by
  obtain ⟨hx, hb, hr, hml, hown, hts, hK, hN, hO, hlk, hbs⟩ := id X
  intro x1 x2 M H locs ls hf hR hl
  unfold fX4_askCrossing at hf
  refine lv_aload_n hx hb dX4_askCrossing_0 rfl (lv_at hl 0 rfl) ?_
  refine x_get hx hb hown hts hK hR kX4 (z_30 b) (j := 1) (by decide) fl_X4_33 (v := .ref (eB E + 26)) rfl dX4_askCrossing_1 ?_
  refine lv_iload_n hx hb dX4_askCrossing_4 rfl (lv_at hl 1 rfl) ?_
  refine lv_iload_n hx hb dX4_askCrossing_5 rfl (lv_at hl 2 rfl) ?_
  obtain ⟨q6, c6, hf⟩ := br_b hf
  refine x_callV (k := 26) (As := [.int x1, .int x2]) (rest := []) (st1 := [.long q6]) X hR (ctX2_turnBetween c6) ml_X4_73 im_X2_turnBetween se_X2_turnBetween in_X2 co_X2_turnBetween yo_X2_turnBetween rfl kX2 (z_26 b) (rm_ok (by decide) (by decide)) rfl hl.1 rfl rfl (Nat.le_of_ble_eq_true rfl) dX4_askCrossing_6 ⟨Nat.zero_le _, Nat.zero_le _⟩ (fun H locs hR => ?_)
  refine lv_lstore_n (lv' := [(3, .long q6), (0, .ref (eB E + 30)), (1, .int x1), (2, .int x2)]) hx hb dX4_askCrossing_9 rfl hl (by decide) rfl (fun ls hl => ?_)
  refine lv_lload_n hx hb dX4_askCrossing_10 rfl (lv_at hl 0 rfl) ?_
  refine lv_lconst (v := 0) hx hb dX4_askCrossing_11 (by decide) ?_
  refine W.lcmp hx hb dX4_askCrossing_12 ?_
  refine lv_if_eq (tgt := 39) hx hb dX4_askCrossing_13 (by decide) (fun q13 => ?_) (fun q13 => ?_)
  · have hf := (br_if hf).1 q13
    exact wX4_askCrossing_39 X hf hR (lv_sub hl [] rfl)
  · have hf := (br_if hf).2 q13
    refine lv_aload_n hx hb dX4_askCrossing_16 rfl (lv_at hl 1 rfl) ?_
    refine lv_aload_n hx hb dX4_askCrossing_17 rfl (lv_at hl 1 rfl) ?_
    refine x_get hx hb hown hts hK hR kX4 (z_30 b) (j := 1) (by decide) fl_X4_33 (v := .ref (eB E + 26)) rfl dX4_askCrossing_18 ?_
    refine lv_iload_n hx hb dX4_askCrossing_21 rfl (lv_at hl 2 rfl) ?_
    refine lv_iload_n hx hb dX4_askCrossing_22 rfl (lv_at hl 3 rfl) ?_
    obtain ⟨q23, c23, hf⟩ := br_b hf
    refine x_callV (k := 26) (As := [.int x1, .int x2]) (rest := [.ref (eB E + 30)]) (st1 := [.long q23, .ref (eB E + 30)]) X hR (ctX2_crossingX c23) ml_X4_77 im_X2_crossingX se_X2_crossingX in_X2 co_X2_crossingX yo_X2_crossingX rfl kX2 (z_26 b) (rm_ok (by decide) (by decide)) rfl hl.1 rfl rfl (Nat.le_of_ble_eq_true rfl) dX4_askCrossing_23 ⟨Nat.zero_le _, Nat.zero_le _⟩ (fun H locs hR => ?_)
    refine lv_aload_n hx hb dX4_askCrossing_26 rfl (lv_at hl 1 rfl) ?_
    refine x_get hx hb hown hts hK hR kX4 (z_30 b) (j := 1) (by decide) fl_X4_33 (v := .ref (eB E + 26)) rfl dX4_askCrossing_27 ?_
    refine lv_iload_n hx hb dX4_askCrossing_30 rfl (lv_at hl 2 rfl) ?_
    refine lv_iload_n hx hb dX4_askCrossing_31 rfl (lv_at hl 3 rfl) ?_
    obtain ⟨q32, c32, hf⟩ := br_b hf
    refine x_callV (k := 26) (As := [.int x1, .int x2]) (rest := [.long q23, .ref (eB E + 30)]) (st1 := [.long q32, .long q23, .ref (eB E + 30)]) X hR (ctX2_crossingY c32) ml_X4_80 im_X2_crossingY se_X2_crossingY in_X2 co_X2_crossingY yo_X2_crossingY rfl kX2 (z_26 b) (rm_ok (by decide) (by decide)) rfl hl.1 rfl rfl (Nat.le_of_ble_eq_true rfl) dX4_askCrossing_32 ⟨Nat.zero_le _, Nat.zero_le _⟩ (fun H locs hR => ?_)
    refine lv_lload_n hx hb dX4_askCrossing_35 rfl (lv_at hl 0 rfl) ?_
    obtain ⟨q36, c36, hf⟩ := br_b hf
    refine x_callV (k := 30) (As := [.long q23, .long q32, .long q6]) (rest := []) (st1 := []) X hR (ctX4_ask c36) ml_X4_55 im_X4_ask se_X4_ask in_X4 co_X4_ask yo_X4_ask rfl kX4 (z_30 b) (rm_ok (by decide) (by decide)) rfl hl.1 rfl rfl (Nat.le_of_ble_eq_true rfl) dX4_askCrossing_36 ⟨Nat.zero_le _, Nat.zero_le _⟩ (fun H locs hR => ?_)
    exact wX4_askCrossing_39 X hf hR (lv_sub hl [] rfl)
theorem ctX4_askCrossing {l : Launch} {E : Ge} {b : Bool} {M : Mem} {x1 : Int32} {x2 : Int32} {M1 : Mem} (h : fX4_askCrossing x1 x2 M = some M1) : CT l E yX4_askCrossing cX4_askCrossing 5 none 5 0 0 [.ref (eB E + 30), .int x1, .int x2] none (sh_ b) (nn b) M (sh_ b) (nn b) M1 := by
  refine met_of (by decide) (Nat.le_of_ble_eq_true rfl) ?_
  intro p e s m args below meth c X _ hR ls hl
  exact wX4_askCrossing_0 X h hR hl
def fX4_firstApart_37 (M : Mem) (k101 : Int32 → Option Int32) (k110 : Option Int32) : Nat → Int64 → Int64 → Int64 → Int32 → Option Int32
  | 0, _, _, _, _ => none
  | n + 1, y3, y5, y7, x9 => (if (M.1 26 4) ≤ x9 then k110 else (if (lg_cmp y3 (0 : Int64)) = 0 then k101 x9 else (if inb x9 105 = true then (if inb x9 105 = true then (if inb x9 105 = true then (if (lg_cmp (((M.1 27 (ix x9)).toInt64 * y5) + ((M.1 28 (ix x9)).toInt64 * y7)) ((M.1 29 (ix x9)).toInt64 * y3)) = 0 then nx (x9 + (1 : Int32)) (fun v104 => fX4_firstApart_37 M k101 k110 n y3 y5 y7 v104) else k101 x9) else none) else none) else none)))
def fX4_firstApart_101 (M : Mem) (x9 : Int32) : Option Int32 := some x9
def fX4_firstApart_110 (M : Mem) : Option Int32 := some (-1 : Int32)
def fX4_firstApart (M : Mem) (x1 : Int32) (x2 : Int32) : Option Int32 := (fX2_turnBetween M x1 x2).bind (fun q6 => (fX2_crossingX M x1 x2).bind (fun q16 => (fX2_crossingY M x1 x2).bind (fun q27 => nx (x2 + (1 : Int32)) (fun v35 => fX4_firstApart_37 M (fX4_firstApart_101 M) (fX4_firstApart_110 M) FU q6 q16 q27 v35))))
set_option maxHeartbeats 4000000 in
set_option maxRecDepth 100000 in
theorem wX4_firstApart_37 {r : Int32} {M : Mem} {k101 : Int32 → Option Int32} {k110 : Option Int32} (X : CX E p s m args c meth cX4_firstApart 10 (some .int) RX4) (hk101 : ∀ {x9 : Int32} {H : Heap} {locs : List Loc} {ls : Array Slot}, k101 x9 = some r → Rl E (sh_ b) (nn b) s.heap M H locs → lv_has ls 10 [(9, .int x9)] → W p l e (rm 2 0 0) s m args below meth c H locs 0 0 (MQ below (qq E (some (.int r)) (sh_ b) (nn b) M) args s 0 0 (fr E)) (F0 m 101 ls [])) (hk110 : ∀ {H : Heap} {locs : List Loc} {ls : Array Slot}, k110 = some r → Rl E (sh_ b) (nn b) s.heap M H locs → lv_has ls 10 [] → W p l e (rm 2 0 0) s m args below meth c H locs 0 0 (MQ below (qq E (some (.int r)) (sh_ b) (nn b) M) args s 0 0 (fr E)) (F0 m 110 ls [])) : ∀ (n : Nat) {y3 : Int64} {y5 : Int64} {y7 : Int64} {x9 : Int32} {H : Heap} {locs : List Loc} {ls : Array Slot}, fX4_firstApart_37 M k101 k110 n y3 y5 y7 x9 = some r → Rl E (sh_ b) (nn b) s.heap M H locs → lv_has ls 10 [(0, .ref (eB E + 30)), (3, .long y3), (5, .long y5), (7, .long y7), (9, .int x9)] → W p l e (rm 2 0 0) s m args below meth c H locs 0 0 (MQ below (qq E (some (.int r)) (sh_ b) (nn b) M) args s 0 0 (fr E)) (F0 m 37 ls []) := by
  obtain ⟨hx, hb, hr, hml, hown, hts, hK, hN, hO, hlk, hbs⟩ := id X
  intro n
  induction n with
  | zero =>
    intro y3 y5 y7 x9 H locs ls hf hR hl
    exact absurd (show none = some _ from hf) (fun h => by cases h)
  | succ n ih =>
    intro y3 y5 y7 x9 H locs ls hf hR hl
    rw [fX4_firstApart_37] at hf
    refine lv_iload hx hb dX4_firstApart_37 (lv_at hl 4 rfl) ?_
    refine lv_aload_n hx hb dX4_firstApart_39 rfl (lv_at hl 0 rfl) ?_
    refine x_get hx hb hown hts hK hR kX4 (z_30 b) (j := 1) (by decide) fl_X4_33 (v := .ref (eB E + 26)) rfl dX4_firstApart_40 ?_
    refine x_get hx hb hown hts hK hR kX2 (z_26 b) (j := 4) (by decide) fl_X4_59 (v := .int (M.1 26 4)) rfl dX4_firstApart_43 ?_
    refine lv_icmp_ge (tgt := 110) hx hb dX4_firstApart_46 (by decide) (fun q46 => ?_) (fun q46 => ?_)
    · have hf := (br_if hf).1 q46
      exact hk110 hf hR (lv_sub hl [] rfl)
    · have hf := (br_if hf).2 q46
      refine lv_lload_n hx hb dX4_firstApart_49 rfl (lv_at hl 1 rfl) ?_
      refine lv_lconst (v := 0) hx hb dX4_firstApart_50 (by decide) ?_
      refine W.lcmp hx hb dX4_firstApart_51 ?_
      refine lv_if_eq (tgt := 101) hx hb dX4_firstApart_52 (by decide) (fun q52 => ?_) (fun q52 => ?_)
      · have hf := (br_if hf).1 q52
        exact hk101 hf hR (lv_sub hl [4] rfl)
      · have hf := (br_if hf).2 q52
        refine lv_aload_n hx hb dX4_firstApart_55 rfl (lv_at hl 0 rfl) ?_
        refine x_get hx hb hown hts hK hR kX4 (z_30 b) (j := 1) (by decide) fl_X4_33 (v := .ref (eB E + 26)) rfl dX4_firstApart_56 ?_
        refine x_get hx hb hown hts hK hR kX2 (z_26 b) (j := 1) (by decide) fl_X4_119 (v := .ref (eB E + 27)) rfl dX4_firstApart_59 ?_
        refine lv_iload hx hb dX4_firstApart_62 (lv_at hl 4 rfl) ?_
        obtain ⟨g64, hf⟩ := br_g hf
        refine x_iald hx hb hK hR (z_27 b) g64 dX4_firstApart_64 ?_
        refine lv_i2l (v := (M.1 27 (ix x9)).toInt64) hx hb dX4_firstApart_65 rfl ?_
        refine lv_lload hx hb dX4_firstApart_66 (lv_at hl 2 rfl) ?_
        refine lv_lmul hx hb dX4_firstApart_68 ?_
        refine lv_aload_n hx hb dX4_firstApart_69 rfl (lv_at hl 0 rfl) ?_
        refine x_get hx hb hown hts hK hR kX4 (z_30 b) (j := 1) (by decide) fl_X4_33 (v := .ref (eB E + 26)) rfl dX4_firstApart_70 ?_
        refine x_get hx hb hown hts hK hR kX2 (z_26 b) (j := 2) (by decide) fl_X4_122 (v := .ref (eB E + 28)) rfl dX4_firstApart_73 ?_
        refine lv_iload hx hb dX4_firstApart_76 (lv_at hl 4 rfl) ?_
        obtain ⟨g78, hf⟩ := br_g hf
        refine x_iald hx hb hK hR (z_28 b) g78 dX4_firstApart_78 ?_
        refine lv_i2l (v := (M.1 28 (ix x9)).toInt64) hx hb dX4_firstApart_79 rfl ?_
        refine lv_lload hx hb dX4_firstApart_80 (lv_at hl 3 rfl) ?_
        refine lv_lmul hx hb dX4_firstApart_82 ?_
        refine lv_ladd hx hb dX4_firstApart_83 ?_
        refine lv_aload_n hx hb dX4_firstApart_84 rfl (lv_at hl 0 rfl) ?_
        refine x_get hx hb hown hts hK hR kX4 (z_30 b) (j := 1) (by decide) fl_X4_33 (v := .ref (eB E + 26)) rfl dX4_firstApart_85 ?_
        refine x_get hx hb hown hts hK hR kX2 (z_26 b) (j := 3) (by decide) fl_X4_125 (v := .ref (eB E + 29)) rfl dX4_firstApart_88 ?_
        refine lv_iload hx hb dX4_firstApart_91 (lv_at hl 4 rfl) ?_
        obtain ⟨g93, hf⟩ := br_g hf
        refine x_iald hx hb hK hR (z_29 b) g93 dX4_firstApart_93 ?_
        refine lv_i2l (v := (M.1 29 (ix x9)).toInt64) hx hb dX4_firstApart_94 rfl ?_
        refine lv_lload_n hx hb dX4_firstApart_95 rfl (lv_at hl 1 rfl) ?_
        refine lv_lmul hx hb dX4_firstApart_96 ?_
        refine W.lcmp hx hb dX4_firstApart_97 ?_
        refine lv_if_eq (tgt := 104) hx hb dX4_firstApart_98 (by decide) (fun q98 => ?_) (fun q98 => ?_)
        · have hf := (br_if hf).1 q98
          obtain ⟨v104, e104⟩ : ∃ y : Int32, y = (x9 + (1 : Int32)) := ⟨_, rfl⟩
          have hf := nx_at e104 hf
          refine lv_iinc (v := v104) (lv' := [(9, .int v104), (0, .ref (eB E + 30)), (3, .long y3), (5, .long y5), (7, .long y7)]) hx hb dX4_firstApart_104 hl (k := 4) rfl (by rw [e104]; rfl) (by decide) rfl (fun ls hl => ?_)
          refine lv_goto (tgt := 37) hx hb dX4_firstApart_107 (by decide) ?_
          exact ih hf hR (lv_sub hl [1, 2, 3, 4, 0] rfl)
        · have hf := (br_if hf).2 q98
          exact hk101 hf hR (lv_sub hl [4] rfl)
set_option maxHeartbeats 4000000 in
set_option maxRecDepth 100000 in
theorem wX4_firstApart_101 {r : Int32} {M : Mem} (X : CX E p s m args c meth cX4_firstApart 10 (some .int) RX4) : ∀ {x9 : Int32} {H : Heap} {locs : List Loc} {ls : Array Slot}, fX4_firstApart_101 M x9 = some r → Rl E (sh_ b) (nn b) s.heap M H locs → lv_has ls 10 [(9, .int x9)] → W p l e (rm 2 0 0) s m args below meth c H locs 0 0 (MQ below (qq E (some (.int r)) (sh_ b) (nn b) M) args s 0 0 (fr E)) (F0 m 101 ls []) := by
  obtain ⟨hx, hb, hr, hml, hown, hts, hK, hN, hO, hlk, hbs⟩ := id X
  intro x9 H locs ls hf hR hl
  unfold fX4_firstApart_101 at hf
  refine lv_iload hx hb dX4_firstApart_101 (lv_at hl 0 rfl) ?_
  cases hf
  exact x_iret hx hb hr hlk hR dX4_firstApart_103
set_option maxHeartbeats 4000000 in
set_option maxRecDepth 100000 in
theorem wX4_firstApart_110 {r : Int32} {M : Mem} (X : CX E p s m args c meth cX4_firstApart 10 (some .int) RX4) : ∀ {H : Heap} {locs : List Loc} {ls : Array Slot}, fX4_firstApart_110 M = some r → Rl E (sh_ b) (nn b) s.heap M H locs → lv_has ls 10 [] → W p l e (rm 2 0 0) s m args below meth c H locs 0 0 (MQ below (qq E (some (.int r)) (sh_ b) (nn b) M) args s 0 0 (fr E)) (F0 m 110 ls []) := by
  obtain ⟨hx, hb, hr, hml, hown, hts, hK, hN, hO, hlk, hbs⟩ := id X
  intro H locs ls hf hR hl
  unfold fX4_firstApart_110 at hf
  refine lv_iconst (v := -1) hx hb dX4_firstApart_110 (by decide) ?_
  cases hf
  exact x_iret hx hb hr hlk hR dX4_firstApart_111
set_option maxHeartbeats 4000000 in
set_option maxRecDepth 100000 in
theorem wX4_firstApart_0 {r : Int32} {M : Mem} (X : CX E p s m args c meth cX4_firstApart 10 (some .int) RX4) : ∀ {x1 : Int32} {x2 : Int32} {H : Heap} {locs : List Loc} {ls : Array Slot}, fX4_firstApart M x1 x2 = some r → Rl E (sh_ b) (nn b) s.heap M H locs → lv_has ls 10 [(0, .ref (eB E + 30)), (1, .int x1), (2, .int x2)] → W p l e (rm 2 0 0) s m args below meth c H locs 0 0 (MQ below (qq E (some (.int r)) (sh_ b) (nn b) M) args s 0 0 (fr E)) (F0 m 0 ls []) := by
  obtain ⟨hx, hb, hr, hml, hown, hts, hK, hN, hO, hlk, hbs⟩ := id X
  intro x1 x2 H locs ls hf hR hl
  unfold fX4_firstApart at hf
  refine lv_aload_n hx hb dX4_firstApart_0 rfl (lv_at hl 0 rfl) ?_
  refine x_get hx hb hown hts hK hR kX4 (z_30 b) (j := 1) (by decide) fl_X4_33 (v := .ref (eB E + 26)) rfl dX4_firstApart_1 ?_
  refine lv_iload_n hx hb dX4_firstApart_4 rfl (lv_at hl 1 rfl) ?_
  refine lv_iload_n hx hb dX4_firstApart_5 rfl (lv_at hl 2 rfl) ?_
  obtain ⟨q6, c6, hf⟩ := br_b hf
  refine x_callV (k := 26) (As := [.int x1, .int x2]) (rest := []) (st1 := [.long q6]) X hR (ctX2_turnBetween c6) ml_X4_73 im_X2_turnBetween se_X2_turnBetween in_X2 co_X2_turnBetween yo_X2_turnBetween rfl kX2 (z_26 b) (rm_ok (by decide) (by decide)) rfl hl.1 rfl rfl (Nat.le_of_ble_eq_true rfl) dX4_firstApart_6 ⟨Nat.zero_le _, Nat.zero_le _⟩ (fun H locs hR => ?_)
  refine lv_lstore_n (lv' := [(3, .long q6), (0, .ref (eB E + 30)), (1, .int x1), (2, .int x2)]) hx hb dX4_firstApart_9 rfl hl (by decide) rfl (fun ls hl => ?_)
  refine lv_aload_n hx hb dX4_firstApart_10 rfl (lv_at hl 1 rfl) ?_
  refine x_get hx hb hown hts hK hR kX4 (z_30 b) (j := 1) (by decide) fl_X4_33 (v := .ref (eB E + 26)) rfl dX4_firstApart_11 ?_
  refine lv_iload_n hx hb dX4_firstApart_14 rfl (lv_at hl 2 rfl) ?_
  refine lv_iload_n hx hb dX4_firstApart_15 rfl (lv_at hl 3 rfl) ?_
  obtain ⟨q16, c16, hf⟩ := br_b hf
  refine x_callV (k := 26) (As := [.int x1, .int x2]) (rest := []) (st1 := [.long q16]) X hR (ctX2_crossingX c16) ml_X4_77 im_X2_crossingX se_X2_crossingX in_X2 co_X2_crossingX yo_X2_crossingX rfl kX2 (z_26 b) (rm_ok (by decide) (by decide)) rfl hl.1 rfl rfl (Nat.le_of_ble_eq_true rfl) dX4_firstApart_16 ⟨Nat.zero_le _, Nat.zero_le _⟩ (fun H locs hR => ?_)
  refine lv_lstore (lv' := [(5, .long q16), (3, .long q6), (0, .ref (eB E + 30)), (1, .int x1), (2, .int x2)]) hx hb dX4_firstApart_19 hl (by decide) rfl (fun ls hl => ?_)
  refine lv_aload_n hx hb dX4_firstApart_21 rfl (lv_at hl 2 rfl) ?_
  refine x_get hx hb hown hts hK hR kX4 (z_30 b) (j := 1) (by decide) fl_X4_33 (v := .ref (eB E + 26)) rfl dX4_firstApart_22 ?_
  refine lv_iload_n hx hb dX4_firstApart_25 rfl (lv_at hl 3 rfl) ?_
  refine lv_iload_n hx hb dX4_firstApart_26 rfl (lv_at hl 4 rfl) ?_
  obtain ⟨q27, c27, hf⟩ := br_b hf
  refine x_callV (k := 26) (As := [.int x1, .int x2]) (rest := []) (st1 := [.long q27]) X hR (ctX2_crossingY c27) ml_X4_80 im_X2_crossingY se_X2_crossingY in_X2 co_X2_crossingY yo_X2_crossingY rfl kX2 (z_26 b) (rm_ok (by decide) (by decide)) rfl hl.1 rfl rfl (Nat.le_of_ble_eq_true rfl) dX4_firstApart_27 ⟨Nat.zero_le _, Nat.zero_le _⟩ (fun H locs hR => ?_)
  refine lv_lstore (lv' := [(7, .long q27), (5, .long q16), (3, .long q6), (0, .ref (eB E + 30)), (1, .int x1), (2, .int x2)]) hx hb dX4_firstApart_30 hl (by decide) rfl (fun ls hl => ?_)
  refine lv_iload_n hx hb dX4_firstApart_32 rfl (lv_at hl 5 rfl) ?_
  refine lv_iconst (v := 1) hx hb dX4_firstApart_33 (by decide) ?_
  refine lv_iadd hx hb dX4_firstApart_34 ?_
  refine lv_topi (fun v35 e35 => ?_)
  have hf := nx_at e35 hf
  refine lv_istore (lv' := [(9, .int v35), (7, .long q27), (5, .long q16), (3, .long q6), (0, .ref (eB E + 30)), (1, .int x1), (2, .int x2)]) hx hb dX4_firstApart_35 hl (by decide) rfl (fun ls hl => ?_)
  exact wX4_firstApart_37 X (fun hf hR hl => wX4_firstApart_101 X hf hR hl) (fun hf hR hl => wX4_firstApart_110 X hf hR hl) FU hf hR (lv_sub hl [4, 3, 2, 1, 0] rfl)
theorem ctX4_firstApart {l : Launch} {E : Ge} {b : Bool} {M : Mem} {x1 : Int32} {x2 : Int32} {r : Int32} (h : fX4_firstApart M x1 x2 = some r) : CT l E yX4_firstApart cX4_firstApart 10 (some .int) 2 0 0 [.ref (eB E + 30), .int x1, .int x2] (some (.int r)) (sh_ b) (nn b) M (sh_ b) (nn b) M := by
  refine met_of (by decide) (Nat.le_of_ble_eq_true rfl) ?_
  intro p e s m args below meth c X _ hR ls hl
  exact wX4_firstApart_0 X h hR hl
def fX4_findProof_17 (k40 : Int32 → Int32 → Int32 → Mem → Option Mem) (k68 : Int32 → Mem → Option Mem) : Nat → Int32 → Int32 → Mem → Option Mem
  | 0, _, _, _ => none
  | n + 1, x1, x2, M => (if (M.1 26 4) ≤ x2 then k68 x1 M else (fX4_firstApart M x1 x2).bind (fun q31 => (if q31 = (-1 : Int32) then nx (x2 + (1 : Int32)) (fun v62 => fX4_findProof_17 k40 k68 n x1 v62 M) else k40 x1 x2 q31 M)))
def fX4_findProof_68 (k2 : Int32 → Mem → Option Mem) (k40 : Int32 → Int32 → Int32 → Mem → Option Mem) (k74 : Mem → Option Mem) (x1 : Int32) (M : Mem) : Option Mem := nx (x1 + (1 : Int32)) (fun v68 => k2 v68 M)
def fX4_findProof_2 (k40 : Int32 → Int32 → Int32 → Mem → Option Mem) (k74 : Mem → Option Mem) : Nat → Int32 → Mem → Option Mem
  | 0, _, _ => none
  | n + 1, x1, M => (if (M.1 26 4) ≤ x1 then k74 M else nx (x1 + (1 : Int32)) (fun v16 => fX4_findProof_17 k40 (fX4_findProof_68 (fX4_findProof_2 k40 k74 n) k40 k74) FU x1 v16 M))
def fX4_findProof_40 (x1 : Int32) (x2 : Int32) (x3 : Int32) (M : Mem) : Option Mem := nx (sI M 34 (ix (0 : Int32)) x1) (fun M46 => nx (sI M46 34 (ix (1 : Int32)) x2) (fun M53 => nx (sI M53 34 (ix (2 : Int32)) x3) (fun M60 => some M60)))
def fX4_findProof_74 (M : Mem) : Option Mem := some M
def fX4_findProof (M : Mem) : Option Mem := fX4_findProof_2 fX4_findProof_40 fX4_findProof_74 FU (0 : Int32) M
set_option maxHeartbeats 4000000 in
set_option maxRecDepth 100000 in
theorem wX4_findProof_17 {M1 : Mem} {k40 : Int32 → Int32 → Int32 → Mem → Option Mem} {k68 : Int32 → Mem → Option Mem} (X : CX E p s m args c meth cX4_findProof 4 none RX4) (hk40 : ∀ {x1 : Int32} {x2 : Int32} {x3 : Int32} {M : Mem} {H : Heap} {locs : List Loc} {ls : Array Slot}, k40 x1 x2 x3 M = some M1 → Rl E (sh_ b) (nn b) s.heap M H locs → lv_has ls 4 [(0, .ref (eB E + 30)), (1, .int x1), (2, .int x2), (3, .int x3)] → W p l e (rm 3 0 0) s m args below meth c H locs 0 0 (MQ below (qq E none (sh_ b) (nn b) M1) args s 0 0 (fr E)) (F0 m 40 ls [])) (hk68 : ∀ {x1 : Int32} {M : Mem} {H : Heap} {locs : List Loc} {ls : Array Slot}, k68 x1 M = some M1 → Rl E (sh_ b) (nn b) s.heap M H locs → lv_has ls 4 [(0, .ref (eB E + 30)), (1, .int x1)] → W p l e (rm 3 0 0) s m args below meth c H locs 0 0 (MQ below (qq E none (sh_ b) (nn b) M1) args s 0 0 (fr E)) (F0 m 68 ls [])) : ∀ (n : Nat) {x1 : Int32} {x2 : Int32} {M : Mem} {H : Heap} {locs : List Loc} {ls : Array Slot}, fX4_findProof_17 k40 k68 n x1 x2 M = some M1 → Rl E (sh_ b) (nn b) s.heap M H locs → lv_has ls 4 [(0, .ref (eB E + 30)), (1, .int x1), (2, .int x2)] → W p l e (rm 3 0 0) s m args below meth c H locs 0 0 (MQ below (qq E none (sh_ b) (nn b) M1) args s 0 0 (fr E)) (F0 m 17 ls []) := by
  obtain ⟨hx, hb, hr, hml, hown, hts, hK, hN, hO, hlk, hbs⟩ := id X
  intro n
  induction n with
  | zero =>
    intro x1 x2 M H locs ls hf hR hl
    exact absurd (show none = some _ from hf) (fun h => by cases h)
  | succ n ih =>
    intro x1 x2 M H locs ls hf hR hl
    rw [fX4_findProof_17] at hf
    refine lv_iload_n hx hb dX4_findProof_17 rfl (lv_at hl 2 rfl) ?_
    refine lv_aload_n hx hb dX4_findProof_18 rfl (lv_at hl 0 rfl) ?_
    refine x_get hx hb hown hts hK hR kX4 (z_30 b) (j := 1) (by decide) fl_X4_33 (v := .ref (eB E + 26)) rfl dX4_findProof_19 ?_
    refine x_get hx hb hown hts hK hR kX2 (z_26 b) (j := 4) (by decide) fl_X4_59 (v := .int (M.1 26 4)) rfl dX4_findProof_22 ?_
    refine lv_icmp_ge (tgt := 68) hx hb dX4_findProof_25 (by decide) (fun q25 => ?_) (fun q25 => ?_)
    · have hf := (br_if hf).1 q25
      exact hk68 hf hR (lv_sub hl [0, 1] rfl)
    · have hf := (br_if hf).2 q25
      refine lv_aload_n hx hb dX4_findProof_28 rfl (lv_at hl 0 rfl) ?_
      refine lv_iload_n hx hb dX4_findProof_29 rfl (lv_at hl 1 rfl) ?_
      refine lv_iload_n hx hb dX4_findProof_30 rfl (lv_at hl 2 rfl) ?_
      obtain ⟨q31, c31, hf⟩ := br_b hf
      refine x_callV (k := 30) (As := [.int x1, .int x2]) (rest := []) (st1 := [.int q31]) X hR (ctX4_firstApart c31) ml_X4_115 im_X4_firstApart se_X4_firstApart in_X4 co_X4_firstApart yo_X4_firstApart rfl kX4 (z_30 b) (rm_ok (by decide) (by decide)) rfl hl.1 rfl rfl (Nat.le_of_ble_eq_true rfl) dX4_findProof_31 ⟨Nat.zero_le _, Nat.zero_le _⟩ (fun H locs hR => ?_)
      refine lv_istore_n (lv' := [(3, .int q31), (0, .ref (eB E + 30)), (1, .int x1), (2, .int x2)]) hx hb dX4_findProof_34 rfl hl (by decide) rfl (fun ls hl => ?_)
      refine lv_iload_n hx hb dX4_findProof_35 rfl (lv_at hl 0 rfl) ?_
      refine lv_iconst (v := -1) hx hb dX4_findProof_36 (by decide) ?_
      refine lv_icmp_eq (tgt := 62) hx hb dX4_findProof_37 (by decide) (fun q37 => ?_) (fun q37 => ?_)
      · have hf := (br_if hf).1 q37
        obtain ⟨v62, e62⟩ : ∃ y : Int32, y = (x2 + (1 : Int32)) := ⟨_, rfl⟩
        have hf := nx_at e62 hf
        refine lv_iinc (v := v62) (lv' := [(2, .int v62), (3, .int q31), (0, .ref (eB E + 30)), (1, .int x1)]) hx hb dX4_findProof_62 hl (k := 3) rfl (by rw [e62]; rfl) (by decide) rfl (fun ls hl => ?_)
        refine lv_goto (tgt := 17) hx hb dX4_findProof_65 (by decide) ?_
        exact ih hf hR (lv_sub hl [2, 3, 0] rfl)
      · have hf := (br_if hf).2 q37
        exact hk40 hf hR (lv_sub hl [1, 2, 3, 0] rfl)
set_option maxHeartbeats 4000000 in
set_option maxRecDepth 100000 in
theorem wX4_findProof_68 {M1 : Mem} {k2 : Int32 → Mem → Option Mem} {k40 : Int32 → Int32 → Int32 → Mem → Option Mem} {k74 : Mem → Option Mem} (X : CX E p s m args c meth cX4_findProof 4 none RX4) (hk2 : ∀ {x1 : Int32} {M : Mem} {H : Heap} {locs : List Loc} {ls : Array Slot}, k2 x1 M = some M1 → Rl E (sh_ b) (nn b) s.heap M H locs → lv_has ls 4 [(0, .ref (eB E + 30)), (1, .int x1)] → W p l e (rm 3 0 0) s m args below meth c H locs 0 0 (MQ below (qq E none (sh_ b) (nn b) M1) args s 0 0 (fr E)) (F0 m 2 ls [])) (hk40 : ∀ {x1 : Int32} {x2 : Int32} {x3 : Int32} {M : Mem} {H : Heap} {locs : List Loc} {ls : Array Slot}, k40 x1 x2 x3 M = some M1 → Rl E (sh_ b) (nn b) s.heap M H locs → lv_has ls 4 [(0, .ref (eB E + 30)), (1, .int x1), (2, .int x2), (3, .int x3)] → W p l e (rm 3 0 0) s m args below meth c H locs 0 0 (MQ below (qq E none (sh_ b) (nn b) M1) args s 0 0 (fr E)) (F0 m 40 ls [])) (hk74 : ∀ {M : Mem} {H : Heap} {locs : List Loc} {ls : Array Slot}, k74 M = some M1 → Rl E (sh_ b) (nn b) s.heap M H locs → lv_has ls 4 [] → W p l e (rm 3 0 0) s m args below meth c H locs 0 0 (MQ below (qq E none (sh_ b) (nn b) M1) args s 0 0 (fr E)) (F0 m 74 ls [])) : ∀ {x1 : Int32} {M : Mem} {H : Heap} {locs : List Loc} {ls : Array Slot}, fX4_findProof_68 k2 k40 k74 x1 M = some M1 → Rl E (sh_ b) (nn b) s.heap M H locs → lv_has ls 4 [(0, .ref (eB E + 30)), (1, .int x1)] → W p l e (rm 3 0 0) s m args below meth c H locs 0 0 (MQ below (qq E none (sh_ b) (nn b) M1) args s 0 0 (fr E)) (F0 m 68 ls []) := by
  obtain ⟨hx, hb, hr, hml, hown, hts, hK, hN, hO, hlk, hbs⟩ := id X
  intro x1 M H locs ls hf hR hl
  unfold fX4_findProof_68 at hf
  obtain ⟨v68, e68⟩ : ∃ y : Int32, y = (x1 + (1 : Int32)) := ⟨_, rfl⟩
  have hf := nx_at e68 hf
  refine lv_iinc (v := v68) (lv' := [(1, .int v68), (0, .ref (eB E + 30))]) hx hb dX4_findProof_68 hl (k := 1) rfl (by rw [e68]; rfl) (by decide) rfl (fun ls hl => ?_)
  refine lv_goto (tgt := 2) hx hb dX4_findProof_71 (by decide) ?_
  exact hk2 hf hR (lv_sub hl [1, 0] rfl)
set_option maxHeartbeats 4000000 in
set_option maxRecDepth 100000 in
theorem wX4_findProof_2 {M1 : Mem} {k40 : Int32 → Int32 → Int32 → Mem → Option Mem} {k74 : Mem → Option Mem} (X : CX E p s m args c meth cX4_findProof 4 none RX4) (hk40 : ∀ {x1 : Int32} {x2 : Int32} {x3 : Int32} {M : Mem} {H : Heap} {locs : List Loc} {ls : Array Slot}, k40 x1 x2 x3 M = some M1 → Rl E (sh_ b) (nn b) s.heap M H locs → lv_has ls 4 [(0, .ref (eB E + 30)), (1, .int x1), (2, .int x2), (3, .int x3)] → W p l e (rm 3 0 0) s m args below meth c H locs 0 0 (MQ below (qq E none (sh_ b) (nn b) M1) args s 0 0 (fr E)) (F0 m 40 ls [])) (hk74 : ∀ {M : Mem} {H : Heap} {locs : List Loc} {ls : Array Slot}, k74 M = some M1 → Rl E (sh_ b) (nn b) s.heap M H locs → lv_has ls 4 [] → W p l e (rm 3 0 0) s m args below meth c H locs 0 0 (MQ below (qq E none (sh_ b) (nn b) M1) args s 0 0 (fr E)) (F0 m 74 ls [])) : ∀ (n : Nat) {x1 : Int32} {M : Mem} {H : Heap} {locs : List Loc} {ls : Array Slot}, fX4_findProof_2 k40 k74 n x1 M = some M1 → Rl E (sh_ b) (nn b) s.heap M H locs → lv_has ls 4 [(0, .ref (eB E + 30)), (1, .int x1)] → W p l e (rm 3 0 0) s m args below meth c H locs 0 0 (MQ below (qq E none (sh_ b) (nn b) M1) args s 0 0 (fr E)) (F0 m 2 ls []) := by
  obtain ⟨hx, hb, hr, hml, hown, hts, hK, hN, hO, hlk, hbs⟩ := id X
  intro n
  induction n with
  | zero =>
    intro x1 M H locs ls hf hR hl
    exact absurd (show none = some _ from hf) (fun h => by cases h)
  | succ n ih =>
    intro x1 M H locs ls hf hR hl
    rw [fX4_findProof_2] at hf
    refine lv_iload_n hx hb dX4_findProof_2 rfl (lv_at hl 1 rfl) ?_
    refine lv_aload_n hx hb dX4_findProof_3 rfl (lv_at hl 0 rfl) ?_
    refine x_get hx hb hown hts hK hR kX4 (z_30 b) (j := 1) (by decide) fl_X4_33 (v := .ref (eB E + 26)) rfl dX4_findProof_4 ?_
    refine x_get hx hb hown hts hK hR kX2 (z_26 b) (j := 4) (by decide) fl_X4_59 (v := .int (M.1 26 4)) rfl dX4_findProof_7 ?_
    refine lv_icmp_ge (tgt := 74) hx hb dX4_findProof_10 (by decide) (fun q10 => ?_) (fun q10 => ?_)
    · have hf := (br_if hf).1 q10
      exact hk74 hf hR (lv_sub hl [] rfl)
    · have hf := (br_if hf).2 q10
      refine lv_iload_n hx hb dX4_findProof_13 rfl (lv_at hl 1 rfl) ?_
      refine lv_iconst (v := 1) hx hb dX4_findProof_14 (by decide) ?_
      refine lv_iadd hx hb dX4_findProof_15 ?_
      refine lv_topi (fun v16 e16 => ?_)
      have hf := nx_at e16 hf
      refine lv_istore_n (lv' := [(2, .int v16), (0, .ref (eB E + 30)), (1, .int x1)]) hx hb dX4_findProof_16 rfl hl (by decide) rfl (fun ls hl => ?_)
      exact wX4_findProof_17 X (fun hf hR hl => hk40 hf hR hl) (fun hf hR hl => wX4_findProof_68 X (fun hf hR hl => ih hf hR hl) (fun hf hR hl => hk40 hf hR hl) (fun hf hR hl => hk74 hf hR hl) hf hR hl) FU hf hR (lv_sub hl [1, 2, 0] rfl)
set_option maxHeartbeats 4000000 in
set_option maxRecDepth 100000 in
theorem wX4_findProof_40 {M1 : Mem} (X : CX E p s m args c meth cX4_findProof 4 none RX4) : ∀ {x1 : Int32} {x2 : Int32} {x3 : Int32} {M : Mem} {H : Heap} {locs : List Loc} {ls : Array Slot}, fX4_findProof_40 x1 x2 x3 M = some M1 → Rl E (sh_ b) (nn b) s.heap M H locs → lv_has ls 4 [(0, .ref (eB E + 30)), (1, .int x1), (2, .int x2), (3, .int x3)] → W p l e (rm 3 0 0) s m args below meth c H locs 0 0 (MQ below (qq E none (sh_ b) (nn b) M1) args s 0 0 (fr E)) (F0 m 40 ls []) := by
  obtain ⟨hx, hb, hr, hml, hown, hts, hK, hN, hO, hlk, hbs⟩ := id X
  intro x1 x2 x3 M H locs ls hf hR hl
  unfold fX4_findProof_40 at hf
  refine lv_aload_n hx hb dX4_findProof_40 rfl (lv_at hl 0 rfl) ?_
  refine x_get hx hb hown hts hK hR kX4 (z_30 b) (j := 6) (by decide) fl_X4_21 (v := .ref (eB E + 34)) rfl dX4_findProof_41 ?_
  refine lv_iconst (v := 0) hx hb dX4_findProof_44 (by decide) ?_
  refine lv_iload_n hx hb dX4_findProof_45 rfl (lv_at hl 1 rfl) ?_
  refine x_iast hx hb hK hR (z_34 b) (by decide) dX4_findProof_46 (fun H locs hR => ?_)
  obtain ⟨M46, e46⟩ : ∃ y : Mem, y = (sI M 34 (ix (0 : Int32)) x1) := ⟨_, rfl⟩
  have hf := nx_at e46 hf
  have hR : Rl E (sh_ b) (nn b) s.heap M46 H locs := by rw [e46]; exact hR
  refine lv_aload_n hx hb dX4_findProof_47 rfl (lv_at hl 0 rfl) ?_
  refine x_get hx hb hown hts hK hR kX4 (z_30 b) (j := 6) (by decide) fl_X4_21 (v := .ref (eB E + 34)) rfl dX4_findProof_48 ?_
  refine lv_iconst (v := 1) hx hb dX4_findProof_51 (by decide) ?_
  refine lv_iload_n hx hb dX4_findProof_52 rfl (lv_at hl 2 rfl) ?_
  refine x_iast hx hb hK hR (z_34 b) (by decide) dX4_findProof_53 (fun H locs hR => ?_)
  obtain ⟨M53, e53⟩ : ∃ y : Mem, y = (sI M46 34 (ix (1 : Int32)) x2) := ⟨_, rfl⟩
  have hf := nx_at e53 hf
  have hR : Rl E (sh_ b) (nn b) s.heap M53 H locs := by rw [e53]; exact hR
  refine lv_aload_n hx hb dX4_findProof_54 rfl (lv_at hl 0 rfl) ?_
  refine x_get hx hb hown hts hK hR kX4 (z_30 b) (j := 6) (by decide) fl_X4_21 (v := .ref (eB E + 34)) rfl dX4_findProof_55 ?_
  refine lv_iconst (v := 2) hx hb dX4_findProof_58 (by decide) ?_
  refine lv_iload_n hx hb dX4_findProof_59 rfl (lv_at hl 3 rfl) ?_
  refine x_iast hx hb hK hR (z_34 b) (by decide) dX4_findProof_60 (fun H locs hR => ?_)
  obtain ⟨M60, e60⟩ : ∃ y : Mem, y = (sI M53 34 (ix (2 : Int32)) x3) := ⟨_, rfl⟩
  have hf := nx_at e60 hf
  have hR : Rl E (sh_ b) (nn b) s.heap M60 H locs := by rw [e60]; exact hR
  cases hf
  exact x_vret hx hb hr hlk hR dX4_findProof_61
set_option maxHeartbeats 4000000 in
set_option maxRecDepth 100000 in
theorem wX4_findProof_74 {M1 : Mem} (X : CX E p s m args c meth cX4_findProof 4 none RX4) : ∀ {M : Mem} {H : Heap} {locs : List Loc} {ls : Array Slot}, fX4_findProof_74 M = some M1 → Rl E (sh_ b) (nn b) s.heap M H locs → lv_has ls 4 [] → W p l e (rm 3 0 0) s m args below meth c H locs 0 0 (MQ below (qq E none (sh_ b) (nn b) M1) args s 0 0 (fr E)) (F0 m 74 ls []) := by
  obtain ⟨hx, hb, hr, hml, hown, hts, hK, hN, hO, hlk, hbs⟩ := id X
  intro M H locs ls hf hR hl
  unfold fX4_findProof_74 at hf
  cases hf
  exact x_vret hx hb hr hlk hR dX4_findProof_74
set_option maxHeartbeats 4000000 in
set_option maxRecDepth 100000 in
theorem wX4_findProof_0 {M1 : Mem} (X : CX E p s m args c meth cX4_findProof 4 none RX4) : ∀ {M : Mem} {H : Heap} {locs : List Loc} {ls : Array Slot}, fX4_findProof M = some M1 → Rl E (sh_ b) (nn b) s.heap M H locs → lv_has ls 4 [(0, .ref (eB E + 30))] → W p l e (rm 3 0 0) s m args below meth c H locs 0 0 (MQ below (qq E none (sh_ b) (nn b) M1) args s 0 0 (fr E)) (F0 m 0 ls []) := by
  obtain ⟨hx, hb, hr, hml, hown, hts, hK, hN, hO, hlk, hbs⟩ := id X
  intro M H locs ls hf hR hl
  unfold fX4_findProof at hf
  refine lv_iconst (v := 0) hx hb dX4_findProof_0 (by decide) ?_
  refine lv_istore_n (lv' := [(1, .int (0 : Int32)), (0, .ref (eB E + 30))]) hx hb dX4_findProof_1 rfl hl (by decide) rfl (fun ls hl => ?_)
  exact wX4_findProof_2 X (fun hf hR hl => wX4_findProof_40 X hf hR hl) (fun hf hR hl => wX4_findProof_74 X hf hR hl) FU hf hR (lv_sub hl [1, 0] rfl)
theorem ctX4_findProof {l : Launch} {E : Ge} {b : Bool} {M : Mem} {M1 : Mem} (h : fX4_findProof M = some M1) : CT l E yX4_findProof cX4_findProof 4 none 3 0 0 [.ref (eB E + 30)] none (sh_ b) (nn b) M (sh_ b) (nn b) M1 := by
  refine met_of (by decide) (Nat.le_of_ble_eq_true rfl) ?_
  intro p e s m args below meth c X _ hR ls hl
  exact wX4_findProof_0 X h hR hl
def fX4_refresh_40 (k82 : Mem → Option Mem) : Nat → Int32 → Mem → Option Mem
  | 0, _, _ => none
  | n + 1, x1, M => (if (M.1 1 0) ≤ x1 then k82 M else (if inb x1 15 = true then (if inb x1 15 = true then (fX4_ask ((M.1 2 (ix x1)).toInt64) ((M.1 3 (ix x1)).toInt64) (1 : Int64) M).bind (fun q73 => nx (x1 + (1 : Int32)) (fun v76 => fX4_refresh_40 k82 n v76 q73)) else none) else none))
def fX4_refresh_99 (k122 : Int32 → Mem → Option Mem) : Nat → Int32 → Int32 → Mem → Option Mem
  | 0, _, _, _ => none
  | n + 1, x1, x2, M => (if (M.1 26 4) ≤ x2 then k122 x1 M else (fX4_askCrossing x1 x2 M).bind (fun q113 => nx (x2 + (1 : Int32)) (fun v116 => fX4_refresh_99 k122 n x1 v116 q113)))
def fX4_refresh_122 (k84 : Int32 → Mem → Option Mem) (k128 : Mem → Option Mem) (x1 : Int32) (M : Mem) : Option Mem := nx (x1 + (1 : Int32)) (fun v122 => k84 v122 M)
def fX4_refresh_84 (k128 : Mem → Option Mem) : Nat → Int32 → Mem → Option Mem
  | 0, _, _ => none
  | n + 1, x1, M => (if (M.1 26 4) ≤ x1 then k128 M else nx (x1 + (1 : Int32)) (fun v98 => fX4_refresh_99 (fX4_refresh_122 (fX4_refresh_84 k128 n) k128) FU x1 v98 M))
def fX4_refresh_147 (M : Mem) : Option Mem := some M
def fX4_refresh_128 (M : Mem) : Option Mem := (fJ7_fill_53178 34 3 (-1 : Int32) M).bind (fun q133 => (if (q133.1 30 5) = 0 then (fX4_findProof q133).bind (fun q144 => fX4_refresh_147 q144) else fX4_refresh_147 q133))
def fX4_refresh_82 (M : Mem) : Option Mem := fX4_refresh_84 fX4_refresh_128 FU (0 : Int32) M
def fX4_refresh (M : Mem) : Option Mem := (if (M.1 30 7) = (M.1 1 14) then some M else nx (sI M 30 7 (M.1 1 14)) (fun M23 => (fX2_refresh M23).bind (fun q30 => nx (sI q30 30 5 (0 : Int32)) (fun M35 => fX4_refresh_40 fX4_refresh_82 FU (0 : Int32) M35))))
set_option maxHeartbeats 4000000 in
set_option maxRecDepth 100000 in
theorem wX4_refresh_40 {M1 : Mem} {k82 : Mem → Option Mem} (X : CX E p s m args c meth cX4_refresh 3 none RX4) (hk82 : ∀ {M : Mem} {H : Heap} {locs : List Loc} {ls : Array Slot}, k82 M = some M1 → Rl E (sh_ b) (nn b) s.heap M H locs → lv_has ls 3 [(0, .ref (eB E + 30))] → W p l e (rm 6 0 0) s m args below meth c H locs 0 0 (MQ below (qq E none (sh_ b) (nn b) M1) args s 0 0 (fr E)) (F0 m 82 ls [])) : ∀ (n : Nat) {x1 : Int32} {M : Mem} {H : Heap} {locs : List Loc} {ls : Array Slot}, fX4_refresh_40 k82 n x1 M = some M1 → Rl E (sh_ b) (nn b) s.heap M H locs → lv_has ls 3 [(0, .ref (eB E + 30)), (1, .int x1)] → W p l e (rm 6 0 0) s m args below meth c H locs 0 0 (MQ below (qq E none (sh_ b) (nn b) M1) args s 0 0 (fr E)) (F0 m 40 ls []) := by
  obtain ⟨hx, hb, hr, hml, hown, hts, hK, hN, hO, hlk, hbs⟩ := id X
  intro n
  induction n with
  | zero =>
    intro x1 M H locs ls hf hR hl
    exact absurd (show none = some _ from hf) (fun h => by cases h)
  | succ n ih =>
    intro x1 M H locs ls hf hR hl
    rw [fX4_refresh_40] at hf
    refine lv_iload_n hx hb dX4_refresh_40 rfl (lv_at hl 1 rfl) ?_
    refine lv_aload_n hx hb dX4_refresh_41 rfl (lv_at hl 0 rfl) ?_
    refine x_get hx hb hown hts hK hR kX4 (z_30 b) (j := 0) (by decide) fl_X4_29 (v := .ref (eB E + 1)) rfl dX4_refresh_42 ?_
    refine x_get hx hb hown hts hK hR kX8 (z_1 b) (j := 0) (by decide) fl_X4_48 (v := .int (M.1 1 0)) rfl dX4_refresh_45 ?_
    refine lv_icmp_ge (tgt := 82) hx hb dX4_refresh_48 (by decide) (fun q48 => ?_) (fun q48 => ?_)
    · have hf := (br_if hf).1 q48
      exact hk82 hf hR (lv_sub hl [0] rfl)
    · have hf := (br_if hf).2 q48
      refine lv_aload_n hx hb dX4_refresh_51 rfl (lv_at hl 0 rfl) ?_
      refine lv_aload_n hx hb dX4_refresh_52 rfl (lv_at hl 0 rfl) ?_
      refine x_get hx hb hown hts hK hR kX4 (z_30 b) (j := 0) (by decide) fl_X4_29 (v := .ref (eB E + 1)) rfl dX4_refresh_53 ?_
      refine x_get hx hb hown hts hK hR kX8 (z_1 b) (j := 1) (by decide) fl_X4_51 (v := .ref (eB E + 2)) rfl dX4_refresh_56 ?_
      refine lv_iload_n hx hb dX4_refresh_59 rfl (lv_at hl 1 rfl) ?_
      obtain ⟨g60, hf⟩ := br_g hf
      refine x_iald hx hb hK hR (z_2 b) g60 dX4_refresh_60 ?_
      refine lv_i2l (v := (M.1 2 (ix x1)).toInt64) hx hb dX4_refresh_61 rfl ?_
      refine lv_aload_n hx hb dX4_refresh_62 rfl (lv_at hl 0 rfl) ?_
      refine x_get hx hb hown hts hK hR kX4 (z_30 b) (j := 0) (by decide) fl_X4_29 (v := .ref (eB E + 1)) rfl dX4_refresh_63 ?_
      refine x_get hx hb hown hts hK hR kX8 (z_1 b) (j := 2) (by decide) fl_X4_53 (v := .ref (eB E + 3)) rfl dX4_refresh_66 ?_
      refine lv_iload_n hx hb dX4_refresh_69 rfl (lv_at hl 1 rfl) ?_
      obtain ⟨g70, hf⟩ := br_g hf
      refine x_iald hx hb hK hR (z_3 b) g70 dX4_refresh_70 ?_
      refine lv_i2l (v := (M.1 3 (ix x1)).toInt64) hx hb dX4_refresh_71 rfl ?_
      refine lv_lconst (v := 1) hx hb dX4_refresh_72 (by decide) ?_
      obtain ⟨q73, c73, hf⟩ := br_b hf
      refine x_callV (k := 30) (As := [.long (M.1 2 (ix x1)).toInt64, .long (M.1 3 (ix x1)).toInt64, .long (1 : Int64)]) (rest := []) (st1 := []) X hR (ctX4_ask c73) ml_X4_55 im_X4_ask se_X4_ask in_X4 co_X4_ask yo_X4_ask rfl kX4 (z_30 b) (rm_ok (by decide) (by decide)) rfl hl.1 rfl rfl (Nat.le_of_ble_eq_true rfl) dX4_refresh_73 ⟨Nat.zero_le _, Nat.zero_le _⟩ (fun H locs hR => ?_)
      obtain ⟨v76, e76⟩ : ∃ y : Int32, y = (x1 + (1 : Int32)) := ⟨_, rfl⟩
      have hf := nx_at e76 hf
      refine lv_iinc (v := v76) (lv' := [(1, .int v76), (0, .ref (eB E + 30))]) hx hb dX4_refresh_76 hl (k := 1) rfl (by rw [e76]; rfl) (by decide) rfl (fun ls hl => ?_)
      refine lv_goto (tgt := 40) hx hb dX4_refresh_79 (by decide) ?_
      exact ih hf hR (lv_sub hl [1, 0] rfl)
set_option maxHeartbeats 4000000 in
set_option maxRecDepth 100000 in
theorem wX4_refresh_99 {M1 : Mem} {k122 : Int32 → Mem → Option Mem} (X : CX E p s m args c meth cX4_refresh 3 none RX4) (hk122 : ∀ {x1 : Int32} {M : Mem} {H : Heap} {locs : List Loc} {ls : Array Slot}, k122 x1 M = some M1 → Rl E (sh_ b) (nn b) s.heap M H locs → lv_has ls 3 [(0, .ref (eB E + 30)), (1, .int x1)] → W p l e (rm 6 0 0) s m args below meth c H locs 0 0 (MQ below (qq E none (sh_ b) (nn b) M1) args s 0 0 (fr E)) (F0 m 122 ls [])) : ∀ (n : Nat) {x1 : Int32} {x2 : Int32} {M : Mem} {H : Heap} {locs : List Loc} {ls : Array Slot}, fX4_refresh_99 k122 n x1 x2 M = some M1 → Rl E (sh_ b) (nn b) s.heap M H locs → lv_has ls 3 [(0, .ref (eB E + 30)), (1, .int x1), (2, .int x2)] → W p l e (rm 6 0 0) s m args below meth c H locs 0 0 (MQ below (qq E none (sh_ b) (nn b) M1) args s 0 0 (fr E)) (F0 m 99 ls []) := by
  obtain ⟨hx, hb, hr, hml, hown, hts, hK, hN, hO, hlk, hbs⟩ := id X
  intro n
  induction n with
  | zero =>
    intro x1 x2 M H locs ls hf hR hl
    exact absurd (show none = some _ from hf) (fun h => by cases h)
  | succ n ih =>
    intro x1 x2 M H locs ls hf hR hl
    rw [fX4_refresh_99] at hf
    refine lv_iload_n hx hb dX4_refresh_99 rfl (lv_at hl 2 rfl) ?_
    refine lv_aload_n hx hb dX4_refresh_100 rfl (lv_at hl 0 rfl) ?_
    refine x_get hx hb hown hts hK hR kX4 (z_30 b) (j := 1) (by decide) fl_X4_33 (v := .ref (eB E + 26)) rfl dX4_refresh_101 ?_
    refine x_get hx hb hown hts hK hR kX2 (z_26 b) (j := 4) (by decide) fl_X4_59 (v := .int (M.1 26 4)) rfl dX4_refresh_104 ?_
    refine lv_icmp_ge (tgt := 122) hx hb dX4_refresh_107 (by decide) (fun q107 => ?_) (fun q107 => ?_)
    · have hf := (br_if hf).1 q107
      exact hk122 hf hR (lv_sub hl [0, 1] rfl)
    · have hf := (br_if hf).2 q107
      refine lv_aload_n hx hb dX4_refresh_110 rfl (lv_at hl 0 rfl) ?_
      refine lv_iload_n hx hb dX4_refresh_111 rfl (lv_at hl 1 rfl) ?_
      refine lv_iload_n hx hb dX4_refresh_112 rfl (lv_at hl 2 rfl) ?_
      obtain ⟨q113, c113, hf⟩ := br_b hf
      refine x_callV (k := 30) (As := [.int x1, .int x2]) (rest := []) (st1 := []) X hR (ctX4_askCrossing c113) ml_X4_60 im_X4_askCrossing se_X4_askCrossing in_X4 co_X4_askCrossing yo_X4_askCrossing rfl kX4 (z_30 b) (rm_ok (by decide) (by decide)) rfl hl.1 rfl rfl (Nat.le_of_ble_eq_true rfl) dX4_refresh_113 ⟨Nat.zero_le _, Nat.zero_le _⟩ (fun H locs hR => ?_)
      obtain ⟨v116, e116⟩ : ∃ y : Int32, y = (x2 + (1 : Int32)) := ⟨_, rfl⟩
      have hf := nx_at e116 hf
      refine lv_iinc (v := v116) (lv' := [(2, .int v116), (0, .ref (eB E + 30)), (1, .int x1)]) hx hb dX4_refresh_116 hl (k := 2) rfl (by rw [e116]; rfl) (by decide) rfl (fun ls hl => ?_)
      refine lv_goto (tgt := 99) hx hb dX4_refresh_119 (by decide) ?_
      exact ih hf hR (lv_sub hl [1, 2, 0] rfl)
set_option maxHeartbeats 4000000 in
set_option maxRecDepth 100000 in
theorem wX4_refresh_122 {M1 : Mem} {k84 : Int32 → Mem → Option Mem} {k128 : Mem → Option Mem} (X : CX E p s m args c meth cX4_refresh 3 none RX4) (hk84 : ∀ {x1 : Int32} {M : Mem} {H : Heap} {locs : List Loc} {ls : Array Slot}, k84 x1 M = some M1 → Rl E (sh_ b) (nn b) s.heap M H locs → lv_has ls 3 [(0, .ref (eB E + 30)), (1, .int x1)] → W p l e (rm 6 0 0) s m args below meth c H locs 0 0 (MQ below (qq E none (sh_ b) (nn b) M1) args s 0 0 (fr E)) (F0 m 84 ls [])) (hk128 : ∀ {M : Mem} {H : Heap} {locs : List Loc} {ls : Array Slot}, k128 M = some M1 → Rl E (sh_ b) (nn b) s.heap M H locs → lv_has ls 3 [(0, .ref (eB E + 30))] → W p l e (rm 6 0 0) s m args below meth c H locs 0 0 (MQ below (qq E none (sh_ b) (nn b) M1) args s 0 0 (fr E)) (F0 m 128 ls [])) : ∀ {x1 : Int32} {M : Mem} {H : Heap} {locs : List Loc} {ls : Array Slot}, fX4_refresh_122 k84 k128 x1 M = some M1 → Rl E (sh_ b) (nn b) s.heap M H locs → lv_has ls 3 [(0, .ref (eB E + 30)), (1, .int x1)] → W p l e (rm 6 0 0) s m args below meth c H locs 0 0 (MQ below (qq E none (sh_ b) (nn b) M1) args s 0 0 (fr E)) (F0 m 122 ls []) := by
  obtain ⟨hx, hb, hr, hml, hown, hts, hK, hN, hO, hlk, hbs⟩ := id X
  intro x1 M H locs ls hf hR hl
  unfold fX4_refresh_122 at hf
  obtain ⟨v122, e122⟩ : ∃ y : Int32, y = (x1 + (1 : Int32)) := ⟨_, rfl⟩
  have hf := nx_at e122 hf
  refine lv_iinc (v := v122) (lv' := [(1, .int v122), (0, .ref (eB E + 30))]) hx hb dX4_refresh_122 hl (k := 1) rfl (by rw [e122]; rfl) (by decide) rfl (fun ls hl => ?_)
  refine lv_goto (tgt := 84) hx hb dX4_refresh_125 (by decide) ?_
  exact hk84 hf hR (lv_sub hl [1, 0] rfl)
set_option maxHeartbeats 4000000 in
set_option maxRecDepth 100000 in
theorem wX4_refresh_84 {M1 : Mem} {k128 : Mem → Option Mem} (X : CX E p s m args c meth cX4_refresh 3 none RX4) (hk128 : ∀ {M : Mem} {H : Heap} {locs : List Loc} {ls : Array Slot}, k128 M = some M1 → Rl E (sh_ b) (nn b) s.heap M H locs → lv_has ls 3 [(0, .ref (eB E + 30))] → W p l e (rm 6 0 0) s m args below meth c H locs 0 0 (MQ below (qq E none (sh_ b) (nn b) M1) args s 0 0 (fr E)) (F0 m 128 ls [])) : ∀ (n : Nat) {x1 : Int32} {M : Mem} {H : Heap} {locs : List Loc} {ls : Array Slot}, fX4_refresh_84 k128 n x1 M = some M1 → Rl E (sh_ b) (nn b) s.heap M H locs → lv_has ls 3 [(0, .ref (eB E + 30)), (1, .int x1)] → W p l e (rm 6 0 0) s m args below meth c H locs 0 0 (MQ below (qq E none (sh_ b) (nn b) M1) args s 0 0 (fr E)) (F0 m 84 ls []) := by
  obtain ⟨hx, hb, hr, hml, hown, hts, hK, hN, hO, hlk, hbs⟩ := id X
  intro n
  induction n with
  | zero =>
    intro x1 M H locs ls hf hR hl
    exact absurd (show none = some _ from hf) (fun h => by cases h)
  | succ n ih =>
    intro x1 M H locs ls hf hR hl
    rw [fX4_refresh_84] at hf
    refine lv_iload_n hx hb dX4_refresh_84 rfl (lv_at hl 1 rfl) ?_
    refine lv_aload_n hx hb dX4_refresh_85 rfl (lv_at hl 0 rfl) ?_
    refine x_get hx hb hown hts hK hR kX4 (z_30 b) (j := 1) (by decide) fl_X4_33 (v := .ref (eB E + 26)) rfl dX4_refresh_86 ?_
    refine x_get hx hb hown hts hK hR kX2 (z_26 b) (j := 4) (by decide) fl_X4_59 (v := .int (M.1 26 4)) rfl dX4_refresh_89 ?_
    refine lv_icmp_ge (tgt := 128) hx hb dX4_refresh_92 (by decide) (fun q92 => ?_) (fun q92 => ?_)
    · have hf := (br_if hf).1 q92
      exact hk128 hf hR (lv_sub hl [0] rfl)
    · have hf := (br_if hf).2 q92
      refine lv_iload_n hx hb dX4_refresh_95 rfl (lv_at hl 1 rfl) ?_
      refine lv_iconst (v := 1) hx hb dX4_refresh_96 (by decide) ?_
      refine lv_iadd hx hb dX4_refresh_97 ?_
      refine lv_topi (fun v98 e98 => ?_)
      have hf := nx_at e98 hf
      refine lv_istore_n (lv' := [(2, .int v98), (0, .ref (eB E + 30)), (1, .int x1)]) hx hb dX4_refresh_98 rfl hl (by decide) rfl (fun ls hl => ?_)
      exact wX4_refresh_99 X (fun hf hR hl => wX4_refresh_122 X (fun hf hR hl => ih hf hR hl) (fun hf hR hl => hk128 hf hR hl) hf hR hl) FU hf hR (lv_sub hl [1, 2, 0] rfl)
set_option maxHeartbeats 4000000 in
set_option maxRecDepth 100000 in
theorem wX4_refresh_147 {M1 : Mem} (X : CX E p s m args c meth cX4_refresh 3 none RX4) : ∀ {M : Mem} {H : Heap} {locs : List Loc} {ls : Array Slot}, fX4_refresh_147 M = some M1 → Rl E (sh_ b) (nn b) s.heap M H locs → lv_has ls 3 [] → W p l e (rm 6 0 0) s m args below meth c H locs 0 0 (MQ below (qq E none (sh_ b) (nn b) M1) args s 0 0 (fr E)) (F0 m 147 ls []) := by
  obtain ⟨hx, hb, hr, hml, hown, hts, hK, hN, hO, hlk, hbs⟩ := id X
  intro M H locs ls hf hR hl
  unfold fX4_refresh_147 at hf
  cases hf
  exact x_vret hx hb hr hlk hR dX4_refresh_147
set_option maxHeartbeats 4000000 in
set_option maxRecDepth 100000 in
theorem wX4_refresh_128 {M1 : Mem} (X : CX E p s m args c meth cX4_refresh 3 none RX4) : ∀ {M : Mem} {H : Heap} {locs : List Loc} {ls : Array Slot}, fX4_refresh_128 M = some M1 → Rl E (sh_ b) (nn b) s.heap M H locs → lv_has ls 3 [(0, .ref (eB E + 30))] → W p l e (rm 6 0 0) s m args below meth c H locs 0 0 (MQ below (qq E none (sh_ b) (nn b) M1) args s 0 0 (fr E)) (F0 m 128 ls []) := by
  obtain ⟨hx, hb, hr, hml, hown, hts, hK, hN, hO, hlk, hbs⟩ := id X
  intro M H locs ls hf hR hl
  unfold fX4_refresh_128 at hf
  refine lv_aload_n hx hb dX4_refresh_128 rfl (lv_at hl 0 rfl) ?_
  refine x_get hx hb hown hts hK hR kX4 (z_30 b) (j := 6) (by decide) fl_X4_21 (v := .ref (eB E + 34)) rfl dX4_refresh_129 ?_
  refine lv_iconst (v := -1) hx hb dX4_refresh_132 (by decide) ?_
  obtain ⟨q133, c133, hf⟩ := br_b hf
  refine x_callS (As := [.ref (eB E + 34), .int (-1 : Int32)]) (rest := []) (st1 := []) X hR (ctJ7_fill_53178 (z_34 b) c133) ml_X4_64 st_J7_fill_53178 in_J7 co_J7_fill_53178 yo_J7_fill_53178 (rm_ok (by decide) (by decide)) rfl hl.1 rfl rfl (Nat.le_of_ble_eq_true rfl) dX4_refresh_133 ⟨Nat.zero_le _, Nat.zero_le _⟩ (fun H locs hR => ?_)
  refine lv_aload_n hx hb dX4_refresh_136 rfl (lv_at hl 0 rfl) ?_
  refine x_get hx hb hown hts hK hR kX4 (z_30 b) (j := 5) (by decide) fl_X4_45 (v := .int (q133.1 30 5)) rfl dX4_refresh_137 ?_
  refine lv_if_ne (tgt := 147) hx hb dX4_refresh_140 (by decide) (fun q140 => ?_) (fun q140 => ?_)
  · have hf := (br_if hf).2 q140
    exact wX4_refresh_147 X hf hR (lv_sub hl [] rfl)
  · have hf := (br_if hf).1 q140
    refine lv_aload_n hx hb dX4_refresh_143 rfl (lv_at hl 0 rfl) ?_
    obtain ⟨q144, c144, hf⟩ := br_b hf
    refine x_callV (k := 30) (As := []) (rest := []) (st1 := []) X hR (ctX4_findProof c144) ml_X4_70 im_X4_findProof se_X4_findProof in_X4 co_X4_findProof yo_X4_findProof rfl kX4 (z_30 b) (rm_ok (by decide) (by decide)) rfl hl.1 rfl rfl (Nat.le_of_ble_eq_true rfl) dX4_refresh_144 ⟨Nat.zero_le _, Nat.zero_le _⟩ (fun H locs hR => ?_)
    exact wX4_refresh_147 X hf hR (lv_sub hl [] rfl)
set_option maxHeartbeats 4000000 in
set_option maxRecDepth 100000 in
theorem wX4_refresh_82 {M1 : Mem} (X : CX E p s m args c meth cX4_refresh 3 none RX4) : ∀ {M : Mem} {H : Heap} {locs : List Loc} {ls : Array Slot}, fX4_refresh_82 M = some M1 → Rl E (sh_ b) (nn b) s.heap M H locs → lv_has ls 3 [(0, .ref (eB E + 30))] → W p l e (rm 6 0 0) s m args below meth c H locs 0 0 (MQ below (qq E none (sh_ b) (nn b) M1) args s 0 0 (fr E)) (F0 m 82 ls []) := by
  obtain ⟨hx, hb, hr, hml, hown, hts, hK, hN, hO, hlk, hbs⟩ := id X
  intro M H locs ls hf hR hl
  unfold fX4_refresh_82 at hf
  refine lv_iconst (v := 0) hx hb dX4_refresh_82 (by decide) ?_
  refine lv_istore_n (lv' := [(1, .int (0 : Int32)), (0, .ref (eB E + 30))]) hx hb dX4_refresh_83 rfl hl (by decide) rfl (fun ls hl => ?_)
  exact wX4_refresh_84 X (fun hf hR hl => wX4_refresh_128 X hf hR hl) FU hf hR (lv_sub hl [1, 0] rfl)
set_option maxHeartbeats 4000000 in
set_option maxRecDepth 100000 in
theorem wX4_refresh_0 {M1 : Mem} (X : CX E p s m args c meth cX4_refresh 3 none RX4) : ∀ {M : Mem} {H : Heap} {locs : List Loc} {ls : Array Slot}, fX4_refresh M = some M1 → Rl E (sh_ b) (nn b) s.heap M H locs → lv_has ls 3 [(0, .ref (eB E + 30))] → W p l e (rm 6 0 0) s m args below meth c H locs 0 0 (MQ below (qq E none (sh_ b) (nn b) M1) args s 0 0 (fr E)) (F0 m 0 ls []) := by
  obtain ⟨hx, hb, hr, hml, hown, hts, hK, hN, hO, hlk, hbs⟩ := id X
  intro M H locs ls hf hR hl
  unfold fX4_refresh at hf
  refine lv_aload_n hx hb dX4_refresh_0 rfl (lv_at hl 0 rfl) ?_
  refine x_get hx hb hown hts hK hR kX4 (z_30 b) (j := 7) (by decide) fl_X4_25 (v := .int (M.1 30 7)) rfl dX4_refresh_1 ?_
  refine lv_aload_n hx hb dX4_refresh_4 rfl (lv_at hl 0 rfl) ?_
  refine x_get hx hb hown hts hK hR kX4 (z_30 b) (j := 0) (by decide) fl_X4_29 (v := .ref (eB E + 1)) rfl dX4_refresh_5 ?_
  refine x_get hx hb hown hts hK hR kX8 (z_1 b) (j := 14) (by decide) fl_X4_37 (v := .int (M.1 1 14)) rfl dX4_refresh_8 ?_
  refine lv_icmp_ne (tgt := 15) hx hb dX4_refresh_11 (by decide) (fun q11 => ?_) (fun q11 => ?_)
  · have hf := (br_if hf).2 q11
    refine lv_aload_n hx hb dX4_refresh_15 rfl (lv_at hl 0 rfl) ?_
    refine lv_aload_n hx hb dX4_refresh_16 rfl (lv_at hl 0 rfl) ?_
    refine x_get hx hb hown hts hK hR kX4 (z_30 b) (j := 0) (by decide) fl_X4_29 (v := .ref (eB E + 1)) rfl dX4_refresh_17 ?_
    refine x_get hx hb hown hts hK hR kX8 (z_1 b) (j := 14) (by decide) fl_X4_37 (v := .int (M.1 1 14)) rfl dX4_refresh_20 ?_
    refine x_puti hx hb hown hts hK hR kX4 (z_30 b) (j := 7) (by decide) fl_X4_25 rfl rfl rfl rfl dX4_refresh_23 (fun H locs hR => ?_)
    obtain ⟨M23, e23⟩ : ∃ y : Mem, y = (sI M 30 7 (M.1 1 14)) := ⟨_, rfl⟩
    have hf := nx_at e23 hf
    have hR : Rl E (sh_ b) (nn b) s.heap M23 H locs := by rw [e23]; exact hR
    refine lv_aload_n hx hb dX4_refresh_26 rfl (lv_at hl 0 rfl) ?_
    refine x_get hx hb hown hts hK hR kX4 (z_30 b) (j := 1) (by decide) fl_X4_33 (v := .ref (eB E + 26)) rfl dX4_refresh_27 ?_
    obtain ⟨q30, c30, hf⟩ := br_b hf
    refine x_callV (k := 26) (As := []) (rest := []) (st1 := []) X hR (ctX2_refresh c30) ml_X4_40 im_X2_refresh se_X2_refresh in_X2 co_X2_refresh yo_X2_refresh rfl kX2 (z_26 b) (rm_ok (by decide) (by decide)) rfl hl.1 rfl rfl (Nat.le_of_ble_eq_true rfl) dX4_refresh_30 ⟨Nat.zero_le _, Nat.zero_le _⟩ (fun H locs hR => ?_)
    refine lv_aload_n hx hb dX4_refresh_33 rfl (lv_at hl 0 rfl) ?_
    refine lv_iconst (v := 0) hx hb dX4_refresh_34 (by decide) ?_
    refine x_puti hx hb hown hts hK hR kX4 (z_30 b) (j := 5) (by decide) fl_X4_45 rfl rfl rfl rfl dX4_refresh_35 (fun H locs hR => ?_)
    obtain ⟨M35, e35⟩ : ∃ y : Mem, y = (sI q30 30 5 (0 : Int32)) := ⟨_, rfl⟩
    have hf := nx_at e35 hf
    have hR : Rl E (sh_ b) (nn b) s.heap M35 H locs := by rw [e35]; exact hR
    refine lv_iconst (v := 0) hx hb dX4_refresh_38 (by decide) ?_
    refine lv_istore_n (lv' := [(1, .int (0 : Int32)), (0, .ref (eB E + 30))]) hx hb dX4_refresh_39 rfl hl (by decide) rfl (fun ls hl => ?_)
    exact wX4_refresh_40 X (fun hf hR hl => wX4_refresh_82 X hf hR hl) FU hf hR (lv_sub hl [1, 0] rfl)
  · have hf := (br_if hf).1 q11
    cases hf
    exact x_vret hx hb hr hlk hR dX4_refresh_14
theorem ctX4_refresh {l : Launch} {E : Ge} {b : Bool} {M : Mem} {M1 : Mem} (h : fX4_refresh M = some M1) : CT l E yX4_refresh cX4_refresh 3 none 6 0 0 [.ref (eB E + 30)] none (sh_ b) (nn b) M (sh_ b) (nn b) M1 := by
  refine met_of (by decide) (Nat.le_of_ble_eq_true rfl) ?_
  intro p e s m args below meth c X _ hR ls hl
  exact wX4_refresh_0 X h hR hl
def fX7_squareTop (M : Mem) (x1 : Int32) (x2 : Int32) (x3 : Int32) : Option Int64 := (if inb x1 105 = true then (if inb x1 105 = true then (if inb x1 105 = true then nx ((((M.1 27 (ix x1)).toInt64 * x2.toInt64) + ((M.1 28 (ix x1)).toInt64 * x3.toInt64)) - (M.1 29 (ix x1)).toInt64) (fun v38 => some (v38 * v38)) else none) else none) else none)
set_option maxHeartbeats 4000000 in
set_option maxRecDepth 100000 in
theorem wX7_squareTop_0 {r : Int64} {M : Mem} (X : CX E p s m args c meth cX7_squareTop 6 (some .long) RX7) : ∀ {x1 : Int32} {x2 : Int32} {x3 : Int32} {H : Heap} {locs : List Loc} {ls : Array Slot}, fX7_squareTop M x1 x2 x3 = some r → Rl E (sh_ b) (nn b) s.heap M H locs → lv_has ls 6 [(0, .ref (eB E + 35)), (1, .int x1), (2, .int x2), (3, .int x3)] → W p l e (rm 1 0 0) s m args below meth c H locs 0 0 (MQ below (qq E (some (.long r)) (sh_ b) (nn b) M) args s 0 0 (fr E)) (F0 m 0 ls []) := by
  obtain ⟨hx, hb, hr, hml, hown, hts, hK, hN, hO, hlk, hbs⟩ := id X
  intro x1 x2 x3 H locs ls hf hR hl
  unfold fX7_squareTop at hf
  refine lv_aload_n hx hb dX7_squareTop_0 rfl (lv_at hl 0 rfl) ?_
  refine x_get hx hb hown hts hK hR kX7 (z_35 b) (j := 0) (by decide) fl_X7_19 (v := .ref (eB E + 26)) rfl dX7_squareTop_1 ?_
  refine x_get hx hb hown hts hK hR kX2 (z_26 b) (j := 1) (by decide) fl_X7_74 (v := .ref (eB E + 27)) rfl dX7_squareTop_4 ?_
  refine lv_iload_n hx hb dX7_squareTop_7 rfl (lv_at hl 1 rfl) ?_
  obtain ⟨g8, hf⟩ := br_g hf
  refine x_iald hx hb hK hR (z_27 b) g8 dX7_squareTop_8 ?_
  refine lv_i2l (v := (M.1 27 (ix x1)).toInt64) hx hb dX7_squareTop_9 rfl ?_
  refine lv_iload_n hx hb dX7_squareTop_10 rfl (lv_at hl 2 rfl) ?_
  refine lv_i2l (v := x2.toInt64) hx hb dX7_squareTop_11 rfl ?_
  refine lv_lmul hx hb dX7_squareTop_12 ?_
  refine lv_aload_n hx hb dX7_squareTop_13 rfl (lv_at hl 0 rfl) ?_
  refine x_get hx hb hown hts hK hR kX7 (z_35 b) (j := 0) (by decide) fl_X7_19 (v := .ref (eB E + 26)) rfl dX7_squareTop_14 ?_
  refine x_get hx hb hown hts hK hR kX2 (z_26 b) (j := 2) (by decide) fl_X7_78 (v := .ref (eB E + 28)) rfl dX7_squareTop_17 ?_
  refine lv_iload_n hx hb dX7_squareTop_20 rfl (lv_at hl 1 rfl) ?_
  obtain ⟨g21, hf⟩ := br_g hf
  refine x_iald hx hb hK hR (z_28 b) g21 dX7_squareTop_21 ?_
  refine lv_i2l (v := (M.1 28 (ix x1)).toInt64) hx hb dX7_squareTop_22 rfl ?_
  refine lv_iload_n hx hb dX7_squareTop_23 rfl (lv_at hl 3 rfl) ?_
  refine lv_i2l (v := x3.toInt64) hx hb dX7_squareTop_24 rfl ?_
  refine lv_lmul hx hb dX7_squareTop_25 ?_
  refine lv_ladd hx hb dX7_squareTop_26 ?_
  refine lv_aload_n hx hb dX7_squareTop_27 rfl (lv_at hl 0 rfl) ?_
  refine x_get hx hb hown hts hK hR kX7 (z_35 b) (j := 0) (by decide) fl_X7_19 (v := .ref (eB E + 26)) rfl dX7_squareTop_28 ?_
  refine x_get hx hb hown hts hK hR kX2 (z_26 b) (j := 3) (by decide) fl_X7_81 (v := .ref (eB E + 29)) rfl dX7_squareTop_31 ?_
  refine lv_iload_n hx hb dX7_squareTop_34 rfl (lv_at hl 1 rfl) ?_
  obtain ⟨g35, hf⟩ := br_g hf
  refine x_iald hx hb hK hR (z_29 b) g35 dX7_squareTop_35 ?_
  refine lv_i2l (v := (M.1 29 (ix x1)).toInt64) hx hb dX7_squareTop_36 rfl ?_
  refine lv_lsub hx hb dX7_squareTop_37 ?_
  refine lv_topl (fun v38 e38 => ?_)
  have hf := nx_at e38 hf
  refine lv_lstore (lv' := [(4, .long v38), (0, .ref (eB E + 35)), (1, .int x1), (2, .int x2), (3, .int x3)]) hx hb dX7_squareTop_38 hl (by decide) rfl (fun ls hl => ?_)
  refine lv_lload hx hb dX7_squareTop_40 (lv_at hl 0 rfl) ?_
  refine lv_lload hx hb dX7_squareTop_42 (lv_at hl 0 rfl) ?_
  refine lv_lmul hx hb dX7_squareTop_44 ?_
  cases hf
  exact x_lret hx hb hr hlk hR dX7_squareTop_45
theorem ctX7_squareTop {l : Launch} {E : Ge} {b : Bool} {M : Mem} {x1 : Int32} {x2 : Int32} {x3 : Int32} {r : Int64} (h : fX7_squareTop M x1 x2 x3 = some r) : CT l E yX7_squareTop cX7_squareTop 6 (some .long) 1 0 0 [.ref (eB E + 35), .int x1, .int x2, .int x3] (some (.long r)) (sh_ b) (nn b) M (sh_ b) (nn b) M := by
  refine met_of (by decide) (Nat.le_of_ble_eq_true rfl) ?_
  intro p e s m args below meth c X _ hR ls hl
  exact wX7_squareTop_0 X h hR hl
def fX7_squareBottom (M : Mem) (x1 : Int32) : Option Int64 := (if inb x1 105 = true then (if inb x1 105 = true then (if inb x1 105 = true then (if inb x1 105 = true then some (((M.1 27 (ix x1)).toInt64 * (M.1 27 (ix x1)).toInt64) + ((M.1 28 (ix x1)).toInt64 * (M.1 28 (ix x1)).toInt64)) else none) else none) else none) else none)
set_option maxHeartbeats 4000000 in
set_option maxRecDepth 100000 in
theorem wX7_squareBottom_0 {r : Int64} {M : Mem} (X : CX E p s m args c meth cX7_squareBottom 2 (some .long) RX7) : ∀ {x1 : Int32} {H : Heap} {locs : List Loc} {ls : Array Slot}, fX7_squareBottom M x1 = some r → Rl E (sh_ b) (nn b) s.heap M H locs → lv_has ls 2 [(0, .ref (eB E + 35)), (1, .int x1)] → W p l e (rm 1 0 0) s m args below meth c H locs 0 0 (MQ below (qq E (some (.long r)) (sh_ b) (nn b) M) args s 0 0 (fr E)) (F0 m 0 ls []) := by
  obtain ⟨hx, hb, hr, hml, hown, hts, hK, hN, hO, hlk, hbs⟩ := id X
  intro x1 H locs ls hf hR hl
  unfold fX7_squareBottom at hf
  refine lv_aload_n hx hb dX7_squareBottom_0 rfl (lv_at hl 0 rfl) ?_
  refine x_get hx hb hown hts hK hR kX7 (z_35 b) (j := 0) (by decide) fl_X7_19 (v := .ref (eB E + 26)) rfl dX7_squareBottom_1 ?_
  refine x_get hx hb hown hts hK hR kX2 (z_26 b) (j := 1) (by decide) fl_X7_74 (v := .ref (eB E + 27)) rfl dX7_squareBottom_4 ?_
  refine lv_iload_n hx hb dX7_squareBottom_7 rfl (lv_at hl 1 rfl) ?_
  obtain ⟨g8, hf⟩ := br_g hf
  refine x_iald hx hb hK hR (z_27 b) g8 dX7_squareBottom_8 ?_
  refine lv_i2l (v := (M.1 27 (ix x1)).toInt64) hx hb dX7_squareBottom_9 rfl ?_
  refine lv_aload_n hx hb dX7_squareBottom_10 rfl (lv_at hl 0 rfl) ?_
  refine x_get hx hb hown hts hK hR kX7 (z_35 b) (j := 0) (by decide) fl_X7_19 (v := .ref (eB E + 26)) rfl dX7_squareBottom_11 ?_
  refine x_get hx hb hown hts hK hR kX2 (z_26 b) (j := 1) (by decide) fl_X7_74 (v := .ref (eB E + 27)) rfl dX7_squareBottom_14 ?_
  refine lv_iload_n hx hb dX7_squareBottom_17 rfl (lv_at hl 1 rfl) ?_
  obtain ⟨g18, hf⟩ := br_g hf
  refine x_iald hx hb hK hR (z_27 b) g18 dX7_squareBottom_18 ?_
  refine lv_i2l (v := (M.1 27 (ix x1)).toInt64) hx hb dX7_squareBottom_19 rfl ?_
  refine lv_lmul hx hb dX7_squareBottom_20 ?_
  refine lv_aload_n hx hb dX7_squareBottom_21 rfl (lv_at hl 0 rfl) ?_
  refine x_get hx hb hown hts hK hR kX7 (z_35 b) (j := 0) (by decide) fl_X7_19 (v := .ref (eB E + 26)) rfl dX7_squareBottom_22 ?_
  refine x_get hx hb hown hts hK hR kX2 (z_26 b) (j := 2) (by decide) fl_X7_78 (v := .ref (eB E + 28)) rfl dX7_squareBottom_25 ?_
  refine lv_iload_n hx hb dX7_squareBottom_28 rfl (lv_at hl 1 rfl) ?_
  obtain ⟨g29, hf⟩ := br_g hf
  refine x_iald hx hb hK hR (z_28 b) g29 dX7_squareBottom_29 ?_
  refine lv_i2l (v := (M.1 28 (ix x1)).toInt64) hx hb dX7_squareBottom_30 rfl ?_
  refine lv_aload_n hx hb dX7_squareBottom_31 rfl (lv_at hl 0 rfl) ?_
  refine x_get hx hb hown hts hK hR kX7 (z_35 b) (j := 0) (by decide) fl_X7_19 (v := .ref (eB E + 26)) rfl dX7_squareBottom_32 ?_
  refine x_get hx hb hown hts hK hR kX2 (z_26 b) (j := 2) (by decide) fl_X7_78 (v := .ref (eB E + 28)) rfl dX7_squareBottom_35 ?_
  refine lv_iload_n hx hb dX7_squareBottom_38 rfl (lv_at hl 1 rfl) ?_
  obtain ⟨g39, hf⟩ := br_g hf
  refine x_iald hx hb hK hR (z_28 b) g39 dX7_squareBottom_39 ?_
  refine lv_i2l (v := (M.1 28 (ix x1)).toInt64) hx hb dX7_squareBottom_40 rfl ?_
  refine lv_lmul hx hb dX7_squareBottom_41 ?_
  refine lv_ladd hx hb dX7_squareBottom_42 ?_
  cases hf
  exact x_lret hx hb hr hlk hR dX7_squareBottom_43
theorem ctX7_squareBottom {l : Launch} {E : Ge} {b : Bool} {M : Mem} {x1 : Int32} {r : Int64} (h : fX7_squareBottom M x1 = some r) : CT l E yX7_squareBottom cX7_squareBottom 2 (some .long) 1 0 0 [.ref (eB E + 35), .int x1] (some (.long r)) (sh_ b) (nn b) M (sh_ b) (nn b) M := by
  refine met_of (by decide) (Nat.le_of_ble_eq_true rfl) ?_
  intro p e s m args below meth c X _ hR ls hl
  exact wX7_squareBottom_0 X h hR hl
def fX7_isBelow_31 (M : Mem) (s0 : Int32) : Option Int32 := some (s0 &&& 1)
def fX7_isBelow (M : Mem) (x1 : Int32) (x2 : Int32) (x3 : Int32) : Option Int32 := (fX7_squareTop M x1 x2 x3).bind (fun q4 => (fX7_squareBottom M x1).bind (fun q18 => (if 0 ≤ (lg_cmp (q4 * (M.2 35 4)) ((M.2 35 3) * q18)) then fX7_isBelow_31 M (0 : Int32) else fX7_isBelow_31 M (1 : Int32))))
set_option maxHeartbeats 4000000 in
set_option maxRecDepth 100000 in
theorem wX7_isBelow_31 {r : Int32} {M : Mem} (X : CX E p s m args c meth cX7_isBelow 4 (some .boolean) RX7) : ∀ {s0 : Int32} {H : Heap} {locs : List Loc} {ls : Array Slot}, fX7_isBelow_31 M s0 = some r → Rl E (sh_ b) (nn b) s.heap M H locs → lv_has ls 4 [] → W p l e (rm 2 0 0) s m args below meth c H locs 0 0 (MQ below (qq E (some (.int r)) (sh_ b) (nn b) M) args s 0 0 (fr E)) (F0 m 31 ls [.int s0]) := by
  obtain ⟨hx, hb, hr, hml, hown, hts, hK, hN, hO, hlk, hbs⟩ := id X
  intro s0 H locs ls hf hR hl
  unfold fX7_isBelow_31 at hf
  cases hf
  exact x_zret hx hb hr hlk hR rfl dX7_isBelow_31
set_option maxHeartbeats 4000000 in
set_option maxRecDepth 100000 in
theorem wX7_isBelow_0 {r : Int32} {M : Mem} (X : CX E p s m args c meth cX7_isBelow 4 (some .boolean) RX7) : ∀ {x1 : Int32} {x2 : Int32} {x3 : Int32} {H : Heap} {locs : List Loc} {ls : Array Slot}, fX7_isBelow M x1 x2 x3 = some r → Rl E (sh_ b) (nn b) s.heap M H locs → lv_has ls 4 [(0, .ref (eB E + 35)), (1, .int x1), (2, .int x2), (3, .int x3)] → W p l e (rm 2 0 0) s m args below meth c H locs 0 0 (MQ below (qq E (some (.int r)) (sh_ b) (nn b) M) args s 0 0 (fr E)) (F0 m 0 ls []) := by
  obtain ⟨hx, hb, hr, hml, hown, hts, hK, hN, hO, hlk, hbs⟩ := id X
  intro x1 x2 x3 H locs ls hf hR hl
  unfold fX7_isBelow at hf
  refine lv_aload_n hx hb dX7_isBelow_0 rfl (lv_at hl 0 rfl) ?_
  refine lv_iload_n hx hb dX7_isBelow_1 rfl (lv_at hl 1 rfl) ?_
  refine lv_iload_n hx hb dX7_isBelow_2 rfl (lv_at hl 2 rfl) ?_
  refine lv_iload_n hx hb dX7_isBelow_3 rfl (lv_at hl 3 rfl) ?_
  obtain ⟨q4, c4, hf⟩ := br_b hf
  refine x_callV (k := 35) (As := [.int x1, .int x2, .int x3]) (rest := []) (st1 := [.long q4]) X hR (ctX7_squareTop c4) ml_X7_66 im_X7_squareTop se_X7_squareTop in_X7 co_X7_squareTop yo_X7_squareTop rfl kX7 (z_35 b) (rm_ok (by decide) (by decide)) rfl hl.1 rfl rfl (Nat.le_of_ble_eq_true rfl) dX7_isBelow_4 ⟨Nat.zero_le _, Nat.zero_le _⟩ (fun H locs hR => ?_)
  refine lv_aload_n hx hb dX7_isBelow_7 rfl (lv_at hl 0 rfl) ?_
  refine x_get hx hb hown hts hK hR kX7 (z_35 b) (j := 4) (by decide) fl_X7_9 (v := .long (M.2 35 4)) rfl dX7_isBelow_8 ?_
  refine lv_lmul hx hb dX7_isBelow_11 ?_
  refine lv_aload_n hx hb dX7_isBelow_12 rfl (lv_at hl 0 rfl) ?_
  refine x_get hx hb hown hts hK hR kX7 (z_35 b) (j := 3) (by decide) fl_X7_46 (v := .long (M.2 35 3)) rfl dX7_isBelow_13 ?_
  refine lv_aload_n hx hb dX7_isBelow_16 rfl (lv_at hl 0 rfl) ?_
  refine lv_iload_n hx hb dX7_isBelow_17 rfl (lv_at hl 1 rfl) ?_
  obtain ⟨q18, c18, hf⟩ := br_b hf
  refine x_callV (k := 35) (As := [.int x1]) (rest := [.long (M.2 35 3), .long (q4 * (M.2 35 4))]) (st1 := [.long q18, .long (M.2 35 3), .long (q4 * (M.2 35 4))]) X hR (ctX7_squareBottom c18) ml_X7_70 im_X7_squareBottom se_X7_squareBottom in_X7 co_X7_squareBottom yo_X7_squareBottom rfl kX7 (z_35 b) (rm_ok (by decide) (by decide)) rfl hl.1 rfl rfl (Nat.le_of_ble_eq_true rfl) dX7_isBelow_18 ⟨Nat.zero_le _, Nat.zero_le _⟩ (fun H locs hR => ?_)
  refine lv_lmul hx hb dX7_isBelow_21 ?_
  refine W.lcmp hx hb dX7_isBelow_22 ?_
  refine lv_if_ge (tgt := 30) hx hb dX7_isBelow_23 (by decide) (fun q23 => ?_) (fun q23 => ?_)
  · have hf := (br_if hf).1 q23
    refine lv_iconst (v := 0) hx hb dX7_isBelow_30 (by decide) ?_
    exact wX7_isBelow_31 X hf hR (lv_sub hl [] rfl)
  · have hf := (br_if hf).2 q23
    refine lv_iconst (v := 1) hx hb dX7_isBelow_26 (by decide) ?_
    refine lv_goto (tgt := 31) hx hb dX7_isBelow_27 (by decide) ?_
    exact wX7_isBelow_31 X hf hR (lv_sub hl [] rfl)
theorem ctX7_isBelow {l : Launch} {E : Ge} {b : Bool} {M : Mem} {x1 : Int32} {x2 : Int32} {x3 : Int32} {r : Int32} (h : fX7_isBelow M x1 x2 x3 = some r) : CT l E yX7_isBelow cX7_isBelow 4 (some .boolean) 2 0 0 [.ref (eB E + 35), .int x1, .int x2, .int x3] (some (.int r)) (sh_ b) (nn b) M (sh_ b) (nn b) M := by
  refine met_of (by decide) (Nat.le_of_ble_eq_true rfl) ?_
  intro p e s m args below meth c X _ hR ls hl
  exact wX7_isBelow_0 X h hR hl
def fX7_isNearer_27 (M : Mem) : Option (Int32 × Mem) := some ((0 : Int32), M)
def fX7_isNearer_31 (k52 : Int32 → Mem → Option (Int32 × Mem)) (k65 : Mem → Option (Int32 × Mem)) : Nat → Int32 → Int32 → Int32 → Mem → Option (Int32 × Mem)
  | 0, _, _, _, _ => none
  | n + 1, x1, x2, x3, M => (if (M.1 26 4) ≤ x3 then k65 M else (fX7_isBelow M x3 x1 x2).bind (fun q46 => (if q46 = 0 then k52 x3 M else nx (x3 + (1 : Int32)) (fun v59 => fX7_isNearer_31 k52 k65 n x1 x2 v59 M))))
def fX7_isNearer_52 (x3 : Int32) (M : Mem) : Option (Int32 × Mem) := nx (sI M 35 5 x3) (fun M54 => some ((0 : Int32), M54))
def fX7_isNearer_65 (M : Mem) : Option (Int32 × Mem) := some ((1 : Int32), M)
def fX7_isNearer (x1 : Int32) (x2 : Int32) (M : Mem) : Option (Int32 × Mem) := (if (M.1 26 4) ≤ (M.1 35 5) then fX7_isNearer_27 M else (fX7_isBelow M (M.1 35 5) x1 x2).bind (fun q21 => (if q21 = 0 then fX7_isNearer_27 M else fX7_isNearer_31 fX7_isNearer_52 fX7_isNearer_65 FU x1 x2 (0 : Int32) M)))
set_option maxHeartbeats 4000000 in
set_option maxRecDepth 100000 in
theorem wX7_isNearer_27 {r : Int32} {M1 : Mem} (X : CX E p s m args c meth cX7_isNearer 4 (some .boolean) RX7) : ∀ {M : Mem} {H : Heap} {locs : List Loc} {ls : Array Slot}, fX7_isNearer_27 M = some (r, M1) → Rl E (sh_ b) (nn b) s.heap M H locs → lv_has ls 4 [] → W p l e (rm 3 0 0) s m args below meth c H locs 0 0 (MQ below (qq E (some (.int r)) (sh_ b) (nn b) M1) args s 0 0 (fr E)) (F0 m 27 ls []) := by
  obtain ⟨hx, hb, hr, hml, hown, hts, hK, hN, hO, hlk, hbs⟩ := id X
  intro M H locs ls hf hR hl
  unfold fX7_isNearer_27 at hf
  refine lv_iconst (v := 0) hx hb dX7_isNearer_27 (by decide) ?_
  cases hf
  exact x_zret hx hb hr hlk hR (by decide) dX7_isNearer_28
set_option maxHeartbeats 4000000 in
set_option maxRecDepth 100000 in
theorem wX7_isNearer_31 {r : Int32} {M1 : Mem} {k52 : Int32 → Mem → Option (Int32 × Mem)} {k65 : Mem → Option (Int32 × Mem)} (X : CX E p s m args c meth cX7_isNearer 4 (some .boolean) RX7) (hk52 : ∀ {x3 : Int32} {M : Mem} {H : Heap} {locs : List Loc} {ls : Array Slot}, k52 x3 M = some (r, M1) → Rl E (sh_ b) (nn b) s.heap M H locs → lv_has ls 4 [(0, .ref (eB E + 35)), (3, .int x3)] → W p l e (rm 3 0 0) s m args below meth c H locs 0 0 (MQ below (qq E (some (.int r)) (sh_ b) (nn b) M1) args s 0 0 (fr E)) (F0 m 52 ls [])) (hk65 : ∀ {M : Mem} {H : Heap} {locs : List Loc} {ls : Array Slot}, k65 M = some (r, M1) → Rl E (sh_ b) (nn b) s.heap M H locs → lv_has ls 4 [] → W p l e (rm 3 0 0) s m args below meth c H locs 0 0 (MQ below (qq E (some (.int r)) (sh_ b) (nn b) M1) args s 0 0 (fr E)) (F0 m 65 ls [])) : ∀ (n : Nat) {x1 : Int32} {x2 : Int32} {x3 : Int32} {M : Mem} {H : Heap} {locs : List Loc} {ls : Array Slot}, fX7_isNearer_31 k52 k65 n x1 x2 x3 M = some (r, M1) → Rl E (sh_ b) (nn b) s.heap M H locs → lv_has ls 4 [(0, .ref (eB E + 35)), (1, .int x1), (2, .int x2), (3, .int x3)] → W p l e (rm 3 0 0) s m args below meth c H locs 0 0 (MQ below (qq E (some (.int r)) (sh_ b) (nn b) M1) args s 0 0 (fr E)) (F0 m 31 ls []) := by
  obtain ⟨hx, hb, hr, hml, hown, hts, hK, hN, hO, hlk, hbs⟩ := id X
  intro n
  induction n with
  | zero =>
    intro x1 x2 x3 M H locs ls hf hR hl
    exact absurd (show none = some _ from hf) (fun h => by cases h)
  | succ n ih =>
    intro x1 x2 x3 M H locs ls hf hR hl
    rw [fX7_isNearer_31] at hf
    refine lv_iload_n hx hb dX7_isNearer_31 rfl (lv_at hl 3 rfl) ?_
    refine lv_aload_n hx hb dX7_isNearer_32 rfl (lv_at hl 0 rfl) ?_
    refine x_get hx hb hown hts hK hR kX7 (z_35 b) (j := 0) (by decide) fl_X7_19 (v := .ref (eB E + 26)) rfl dX7_isNearer_33 ?_
    refine x_get hx hb hown hts hK hR kX2 (z_26 b) (j := 4) (by decide) fl_X7_59 (v := .int (M.1 26 4)) rfl dX7_isNearer_36 ?_
    refine lv_icmp_ge (tgt := 65) hx hb dX7_isNearer_39 (by decide) (fun q39 => ?_) (fun q39 => ?_)
    · have hf := (br_if hf).1 q39
      exact hk65 hf hR (lv_sub hl [] rfl)
    · have hf := (br_if hf).2 q39
      refine lv_aload_n hx hb dX7_isNearer_42 rfl (lv_at hl 0 rfl) ?_
      refine lv_iload_n hx hb dX7_isNearer_43 rfl (lv_at hl 3 rfl) ?_
      refine lv_iload_n hx hb dX7_isNearer_44 rfl (lv_at hl 1 rfl) ?_
      refine lv_iload_n hx hb dX7_isNearer_45 rfl (lv_at hl 2 rfl) ?_
      obtain ⟨q46, c46, hf⟩ := br_b hf
      refine x_callV (k := 35) (As := [.int x3, .int x1, .int x2]) (rest := []) (st1 := [.int q46]) X hR (ctX7_isBelow c46) ml_X7_62 im_X7_isBelow se_X7_isBelow in_X7 co_X7_isBelow yo_X7_isBelow rfl kX7 (z_35 b) (rm_ok (by decide) (by decide)) rfl hl.1 rfl rfl (Nat.le_of_ble_eq_true rfl) dX7_isNearer_46 ⟨Nat.zero_le _, Nat.zero_le _⟩ (fun H locs hR => ?_)
      refine lv_if_ne (tgt := 59) hx hb dX7_isNearer_49 (by decide) (fun q49 => ?_) (fun q49 => ?_)
      · have hf := (br_if hf).2 q49
        obtain ⟨v59, e59⟩ : ∃ y : Int32, y = (x3 + (1 : Int32)) := ⟨_, rfl⟩
        have hf := nx_at e59 hf
        refine lv_iinc (v := v59) (lv' := [(3, .int v59), (0, .ref (eB E + 35)), (1, .int x1), (2, .int x2)]) hx hb dX7_isNearer_59 hl (k := 3) rfl (by rw [e59]; rfl) (by decide) rfl (fun ls hl => ?_)
        refine lv_goto (tgt := 31) hx hb dX7_isNearer_62 (by decide) ?_
        exact ih hf hR (lv_sub hl [1, 2, 3, 0] rfl)
      · have hf := (br_if hf).1 q49
        exact hk52 hf hR (lv_sub hl [0, 3] rfl)
set_option maxHeartbeats 4000000 in
set_option maxRecDepth 100000 in
theorem wX7_isNearer_52 {r : Int32} {M1 : Mem} (X : CX E p s m args c meth cX7_isNearer 4 (some .boolean) RX7) : ∀ {x3 : Int32} {M : Mem} {H : Heap} {locs : List Loc} {ls : Array Slot}, fX7_isNearer_52 x3 M = some (r, M1) → Rl E (sh_ b) (nn b) s.heap M H locs → lv_has ls 4 [(0, .ref (eB E + 35)), (3, .int x3)] → W p l e (rm 3 0 0) s m args below meth c H locs 0 0 (MQ below (qq E (some (.int r)) (sh_ b) (nn b) M1) args s 0 0 (fr E)) (F0 m 52 ls []) := by
  obtain ⟨hx, hb, hr, hml, hown, hts, hK, hN, hO, hlk, hbs⟩ := id X
  intro x3 M H locs ls hf hR hl
  unfold fX7_isNearer_52 at hf
  refine lv_aload_n hx hb dX7_isNearer_52 rfl (lv_at hl 0 rfl) ?_
  refine lv_iload_n hx hb dX7_isNearer_53 rfl (lv_at hl 1 rfl) ?_
  refine x_puti hx hb hown hts hK hR kX7 (z_35 b) (j := 5) (by decide) fl_X7_35 rfl rfl rfl rfl dX7_isNearer_54 (fun H locs hR => ?_)
  obtain ⟨M54, e54⟩ : ∃ y : Mem, y = (sI M 35 5 x3) := ⟨_, rfl⟩
  have hf := nx_at e54 hf
  have hR : Rl E (sh_ b) (nn b) s.heap M54 H locs := by rw [e54]; exact hR
  refine lv_iconst (v := 0) hx hb dX7_isNearer_57 (by decide) ?_
  cases hf
  exact x_zret hx hb hr hlk hR (by decide) dX7_isNearer_58
set_option maxHeartbeats 4000000 in
set_option maxRecDepth 100000 in
theorem wX7_isNearer_65 {r : Int32} {M1 : Mem} (X : CX E p s m args c meth cX7_isNearer 4 (some .boolean) RX7) : ∀ {M : Mem} {H : Heap} {locs : List Loc} {ls : Array Slot}, fX7_isNearer_65 M = some (r, M1) → Rl E (sh_ b) (nn b) s.heap M H locs → lv_has ls 4 [] → W p l e (rm 3 0 0) s m args below meth c H locs 0 0 (MQ below (qq E (some (.int r)) (sh_ b) (nn b) M1) args s 0 0 (fr E)) (F0 m 65 ls []) := by
  obtain ⟨hx, hb, hr, hml, hown, hts, hK, hN, hO, hlk, hbs⟩ := id X
  intro M H locs ls hf hR hl
  unfold fX7_isNearer_65 at hf
  refine lv_iconst (v := 1) hx hb dX7_isNearer_65 (by decide) ?_
  cases hf
  exact x_zret hx hb hr hlk hR (by decide) dX7_isNearer_66
set_option maxHeartbeats 4000000 in
set_option maxRecDepth 100000 in
theorem wX7_isNearer_0 {r : Int32} {M1 : Mem} (X : CX E p s m args c meth cX7_isNearer 4 (some .boolean) RX7) : ∀ {x1 : Int32} {x2 : Int32} {M : Mem} {H : Heap} {locs : List Loc} {ls : Array Slot}, fX7_isNearer x1 x2 M = some (r, M1) → Rl E (sh_ b) (nn b) s.heap M H locs → lv_has ls 4 [(0, .ref (eB E + 35)), (1, .int x1), (2, .int x2)] → W p l e (rm 3 0 0) s m args below meth c H locs 0 0 (MQ below (qq E (some (.int r)) (sh_ b) (nn b) M1) args s 0 0 (fr E)) (F0 m 0 ls []) := by
  obtain ⟨hx, hb, hr, hml, hown, hts, hK, hN, hO, hlk, hbs⟩ := id X
  intro x1 x2 M H locs ls hf hR hl
  unfold fX7_isNearer at hf
  refine lv_aload_n hx hb dX7_isNearer_0 rfl (lv_at hl 0 rfl) ?_
  refine x_get hx hb hown hts hK hR kX7 (z_35 b) (j := 5) (by decide) fl_X7_35 (v := .int (M.1 35 5)) rfl dX7_isNearer_1 ?_
  refine lv_aload_n hx hb dX7_isNearer_4 rfl (lv_at hl 0 rfl) ?_
  refine x_get hx hb hown hts hK hR kX7 (z_35 b) (j := 0) (by decide) fl_X7_19 (v := .ref (eB E + 26)) rfl dX7_isNearer_5 ?_
  refine x_get hx hb hown hts hK hR kX2 (z_26 b) (j := 4) (by decide) fl_X7_59 (v := .int (M.1 26 4)) rfl dX7_isNearer_8 ?_
  refine lv_icmp_ge (tgt := 27) hx hb dX7_isNearer_11 (by decide) (fun q11 => ?_) (fun q11 => ?_)
  · have hf := (br_if hf).1 q11
    exact wX7_isNearer_27 X hf hR (lv_sub hl [] rfl)
  · have hf := (br_if hf).2 q11
    refine lv_aload_n hx hb dX7_isNearer_14 rfl (lv_at hl 0 rfl) ?_
    refine lv_aload_n hx hb dX7_isNearer_15 rfl (lv_at hl 0 rfl) ?_
    refine x_get hx hb hown hts hK hR kX7 (z_35 b) (j := 5) (by decide) fl_X7_35 (v := .int (M.1 35 5)) rfl dX7_isNearer_16 ?_
    refine lv_iload_n hx hb dX7_isNearer_19 rfl (lv_at hl 1 rfl) ?_
    refine lv_iload_n hx hb dX7_isNearer_20 rfl (lv_at hl 2 rfl) ?_
    obtain ⟨q21, c21, hf⟩ := br_b hf
    refine x_callV (k := 35) (As := [.int (M.1 35 5), .int x1, .int x2]) (rest := []) (st1 := [.int q21]) X hR (ctX7_isBelow c21) ml_X7_62 im_X7_isBelow se_X7_isBelow in_X7 co_X7_isBelow yo_X7_isBelow rfl kX7 (z_35 b) (rm_ok (by decide) (by decide)) rfl hl.1 rfl rfl (Nat.le_of_ble_eq_true rfl) dX7_isNearer_21 ⟨Nat.zero_le _, Nat.zero_le _⟩ (fun H locs hR => ?_)
    refine lv_if_ne (tgt := 29) hx hb dX7_isNearer_24 (by decide) (fun q24 => ?_) (fun q24 => ?_)
    · have hf := (br_if hf).2 q24
      refine lv_iconst (v := 0) hx hb dX7_isNearer_29 (by decide) ?_
      refine lv_istore_n (lv' := [(3, .int (0 : Int32)), (0, .ref (eB E + 35)), (1, .int x1), (2, .int x2)]) hx hb dX7_isNearer_30 rfl hl (by decide) rfl (fun ls hl => ?_)
      exact wX7_isNearer_31 X (fun hf hR hl => wX7_isNearer_52 X hf hR hl) (fun hf hR hl => wX7_isNearer_65 X hf hR hl) FU hf hR (lv_sub hl [1, 2, 3, 0] rfl)
    · have hf := (br_if hf).1 q24
      exact wX7_isNearer_27 X hf hR (lv_sub hl [] rfl)
theorem ctX7_isNearer {l : Launch} {E : Ge} {b : Bool} {M : Mem} {x1 : Int32} {x2 : Int32} {r : Int32} {M1 : Mem} (h : fX7_isNearer x1 x2 M = some (r, M1)) : CT l E yX7_isNearer cX7_isNearer 4 (some .boolean) 3 0 0 [.ref (eB E + 35), .int x1, .int x2] (some (.int r)) (sh_ b) (nn b) M (sh_ b) (nn b) M1 := by
  refine met_of (by decide) (Nat.le_of_ble_eq_true rfl) ?_
  intro p e s m args below meth c X _ hR ls hl
  exact wX7_isNearer_0 X h hR hl
def fX7_settleAt_63 (k22 : Int32 → Int32 → Int32 → Mem → Option Mem) (k69 : Mem → Option Mem) (x1 : Int32) (x2 : Int32) (x3 : Int32) (M : Mem) : Option Mem := nx (x3 + (1 : Int32)) (fun v63 => k22 x1 x2 v63 M)
def fX7_settleAt_22 (k69 : Mem → Option Mem) : Nat → Int32 → Int32 → Int32 → Mem → Option Mem
  | 0, _, _, _, _ => none
  | n + 1, x1, x2, x3, M => (if (M.1 26 4) ≤ x3 then k69 M else (fX7_isBelow M x3 x1 x2).bind (fun q37 => (if q37 = 0 then (fX7_squareTop M x3 x1 x2).bind (fun q48 => nx (sL M 35 3 q48) (fun M51 => (fX7_squareBottom M51 x3).bind (fun q57 => nx (sL M51 35 4 q57) (fun M60 => fX7_settleAt_63 (fX7_settleAt_22 k69 n) k69 x1 x2 x3 M60)))) else fX7_settleAt_63 (fX7_settleAt_22 k69 n) k69 x1 x2 x3 M)))
def fX7_settleAt_69 (M : Mem) : Option Mem := some M
def fX7_settleAt (x1 : Int32) (x2 : Int32) (M : Mem) : Option Mem := nx (sI M 35 1 x1) (fun M2 => nx (sI M2 35 2 x2) (fun M7 => nx (sL M7 35 3 (0 : Int64)) (fun M12 => nx (sL M12 35 4 (1 : Int64)) (fun M17 => fX7_settleAt_22 fX7_settleAt_69 FU x1 x2 (0 : Int32) M17))))
set_option maxHeartbeats 4000000 in
set_option maxRecDepth 100000 in
theorem wX7_settleAt_63 {M1 : Mem} {k22 : Int32 → Int32 → Int32 → Mem → Option Mem} {k69 : Mem → Option Mem} (X : CX E p s m args c meth cX7_settleAt 4 none RX7) (hk22 : ∀ {x1 : Int32} {x2 : Int32} {x3 : Int32} {M : Mem} {H : Heap} {locs : List Loc} {ls : Array Slot}, k22 x1 x2 x3 M = some M1 → Rl E (sh_ b) (nn b) s.heap M H locs → lv_has ls 4 [(0, .ref (eB E + 35)), (1, .int x1), (2, .int x2), (3, .int x3)] → W p l e (rm 3 0 0) s m args below meth c H locs 0 0 (MQ below (qq E none (sh_ b) (nn b) M1) args s 0 0 (fr E)) (F0 m 22 ls [])) (hk69 : ∀ {M : Mem} {H : Heap} {locs : List Loc} {ls : Array Slot}, k69 M = some M1 → Rl E (sh_ b) (nn b) s.heap M H locs → lv_has ls 4 [] → W p l e (rm 3 0 0) s m args below meth c H locs 0 0 (MQ below (qq E none (sh_ b) (nn b) M1) args s 0 0 (fr E)) (F0 m 69 ls [])) : ∀ {x1 : Int32} {x2 : Int32} {x3 : Int32} {M : Mem} {H : Heap} {locs : List Loc} {ls : Array Slot}, fX7_settleAt_63 k22 k69 x1 x2 x3 M = some M1 → Rl E (sh_ b) (nn b) s.heap M H locs → lv_has ls 4 [(0, .ref (eB E + 35)), (1, .int x1), (2, .int x2), (3, .int x3)] → W p l e (rm 3 0 0) s m args below meth c H locs 0 0 (MQ below (qq E none (sh_ b) (nn b) M1) args s 0 0 (fr E)) (F0 m 63 ls []) := by
  obtain ⟨hx, hb, hr, hml, hown, hts, hK, hN, hO, hlk, hbs⟩ := id X
  intro x1 x2 x3 M H locs ls hf hR hl
  unfold fX7_settleAt_63 at hf
  obtain ⟨v63, e63⟩ : ∃ y : Int32, y = (x3 + (1 : Int32)) := ⟨_, rfl⟩
  have hf := nx_at e63 hf
  refine lv_iinc (v := v63) (lv' := [(3, .int v63), (0, .ref (eB E + 35)), (1, .int x1), (2, .int x2)]) hx hb dX7_settleAt_63 hl (k := 3) rfl (by rw [e63]; rfl) (by decide) rfl (fun ls hl => ?_)
  refine lv_goto (tgt := 22) hx hb dX7_settleAt_66 (by decide) ?_
  exact hk22 hf hR (lv_sub hl [1, 2, 3, 0] rfl)
set_option maxHeartbeats 4000000 in
set_option maxRecDepth 100000 in
theorem wX7_settleAt_22 {M1 : Mem} {k69 : Mem → Option Mem} (X : CX E p s m args c meth cX7_settleAt 4 none RX7) (hk69 : ∀ {M : Mem} {H : Heap} {locs : List Loc} {ls : Array Slot}, k69 M = some M1 → Rl E (sh_ b) (nn b) s.heap M H locs → lv_has ls 4 [] → W p l e (rm 3 0 0) s m args below meth c H locs 0 0 (MQ below (qq E none (sh_ b) (nn b) M1) args s 0 0 (fr E)) (F0 m 69 ls [])) : ∀ (n : Nat) {x1 : Int32} {x2 : Int32} {x3 : Int32} {M : Mem} {H : Heap} {locs : List Loc} {ls : Array Slot}, fX7_settleAt_22 k69 n x1 x2 x3 M = some M1 → Rl E (sh_ b) (nn b) s.heap M H locs → lv_has ls 4 [(0, .ref (eB E + 35)), (1, .int x1), (2, .int x2), (3, .int x3)] → W p l e (rm 3 0 0) s m args below meth c H locs 0 0 (MQ below (qq E none (sh_ b) (nn b) M1) args s 0 0 (fr E)) (F0 m 22 ls []) := by
  obtain ⟨hx, hb, hr, hml, hown, hts, hK, hN, hO, hlk, hbs⟩ := id X
  intro n
  induction n with
  | zero =>
    intro x1 x2 x3 M H locs ls hf hR hl
    exact absurd (show none = some _ from hf) (fun h => by cases h)
  | succ n ih =>
    intro x1 x2 x3 M H locs ls hf hR hl
    rw [fX7_settleAt_22] at hf
    refine lv_iload_n hx hb dX7_settleAt_22 rfl (lv_at hl 3 rfl) ?_
    refine lv_aload_n hx hb dX7_settleAt_23 rfl (lv_at hl 0 rfl) ?_
    refine x_get hx hb hown hts hK hR kX7 (z_35 b) (j := 0) (by decide) fl_X7_19 (v := .ref (eB E + 26)) rfl dX7_settleAt_24 ?_
    refine x_get hx hb hown hts hK hR kX2 (z_26 b) (j := 4) (by decide) fl_X7_59 (v := .int (M.1 26 4)) rfl dX7_settleAt_27 ?_
    refine lv_icmp_ge (tgt := 69) hx hb dX7_settleAt_30 (by decide) (fun q30 => ?_) (fun q30 => ?_)
    · have hf := (br_if hf).1 q30
      exact hk69 hf hR (lv_sub hl [] rfl)
    · have hf := (br_if hf).2 q30
      refine lv_aload_n hx hb dX7_settleAt_33 rfl (lv_at hl 0 rfl) ?_
      refine lv_iload_n hx hb dX7_settleAt_34 rfl (lv_at hl 3 rfl) ?_
      refine lv_iload_n hx hb dX7_settleAt_35 rfl (lv_at hl 1 rfl) ?_
      refine lv_iload_n hx hb dX7_settleAt_36 rfl (lv_at hl 2 rfl) ?_
      obtain ⟨q37, c37, hf⟩ := br_b hf
      refine x_callV (k := 35) (As := [.int x3, .int x1, .int x2]) (rest := []) (st1 := [.int q37]) X hR (ctX7_isBelow c37) ml_X7_62 im_X7_isBelow se_X7_isBelow in_X7 co_X7_isBelow yo_X7_isBelow rfl kX7 (z_35 b) (rm_ok (by decide) (by decide)) rfl hl.1 rfl rfl (Nat.le_of_ble_eq_true rfl) dX7_settleAt_37 ⟨Nat.zero_le _, Nat.zero_le _⟩ (fun H locs hR => ?_)
      refine lv_if_ne (tgt := 63) hx hb dX7_settleAt_40 (by decide) (fun q40 => ?_) (fun q40 => ?_)
      · have hf := (br_if hf).2 q40
        exact wX7_settleAt_63 X (fun hf hR hl => ih hf hR hl) (fun hf hR hl => hk69 hf hR hl) hf hR hl
      · have hf := (br_if hf).1 q40
        refine lv_aload_n hx hb dX7_settleAt_43 rfl (lv_at hl 0 rfl) ?_
        refine lv_aload_n hx hb dX7_settleAt_44 rfl (lv_at hl 0 rfl) ?_
        refine lv_iload_n hx hb dX7_settleAt_45 rfl (lv_at hl 3 rfl) ?_
        refine lv_iload_n hx hb dX7_settleAt_46 rfl (lv_at hl 1 rfl) ?_
        refine lv_iload_n hx hb dX7_settleAt_47 rfl (lv_at hl 2 rfl) ?_
        obtain ⟨q48, c48, hf⟩ := br_b hf
        refine x_callV (k := 35) (As := [.int x3, .int x1, .int x2]) (rest := [.ref (eB E + 35)]) (st1 := [.long q48, .ref (eB E + 35)]) X hR (ctX7_squareTop c48) ml_X7_66 im_X7_squareTop se_X7_squareTop in_X7 co_X7_squareTop yo_X7_squareTop rfl kX7 (z_35 b) (rm_ok (by decide) (by decide)) rfl hl.1 rfl rfl (Nat.le_of_ble_eq_true rfl) dX7_settleAt_48 ⟨Nat.zero_le _, Nat.zero_le _⟩ (fun H locs hR => ?_)
        refine x_putl hx hb hown hts hK hR kX7 (z_35 b) (j := 3) (by decide) fl_X7_46 rfl rfl rfl rfl dX7_settleAt_51 (fun H locs hR => ?_)
        obtain ⟨M51, e51⟩ : ∃ y : Mem, y = (sL M 35 3 q48) := ⟨_, rfl⟩
        have hf := nx_at e51 hf
        have hR : Rl E (sh_ b) (nn b) s.heap M51 H locs := by rw [e51]; exact hR
        refine lv_aload_n hx hb dX7_settleAt_54 rfl (lv_at hl 0 rfl) ?_
        refine lv_aload_n hx hb dX7_settleAt_55 rfl (lv_at hl 0 rfl) ?_
        refine lv_iload_n hx hb dX7_settleAt_56 rfl (lv_at hl 3 rfl) ?_
        obtain ⟨q57, c57, hf⟩ := br_b hf
        refine x_callV (k := 35) (As := [.int x3]) (rest := [.ref (eB E + 35)]) (st1 := [.long q57, .ref (eB E + 35)]) X hR (ctX7_squareBottom c57) ml_X7_70 im_X7_squareBottom se_X7_squareBottom in_X7 co_X7_squareBottom yo_X7_squareBottom rfl kX7 (z_35 b) (rm_ok (by decide) (by decide)) rfl hl.1 rfl rfl (Nat.le_of_ble_eq_true rfl) dX7_settleAt_57 ⟨Nat.zero_le _, Nat.zero_le _⟩ (fun H locs hR => ?_)
        refine x_putl hx hb hown hts hK hR kX7 (z_35 b) (j := 4) (by decide) fl_X7_9 rfl rfl rfl rfl dX7_settleAt_60 (fun H locs hR => ?_)
        obtain ⟨M60, e60⟩ : ∃ y : Mem, y = (sL M51 35 4 q57) := ⟨_, rfl⟩
        have hf := nx_at e60 hf
        have hR : Rl E (sh_ b) (nn b) s.heap M60 H locs := by rw [e60]; exact hR
        exact wX7_settleAt_63 X (fun hf hR hl => ih hf hR hl) (fun hf hR hl => hk69 hf hR hl) hf hR hl
set_option maxHeartbeats 4000000 in
set_option maxRecDepth 100000 in
theorem wX7_settleAt_69 {M1 : Mem} (X : CX E p s m args c meth cX7_settleAt 4 none RX7) : ∀ {M : Mem} {H : Heap} {locs : List Loc} {ls : Array Slot}, fX7_settleAt_69 M = some M1 → Rl E (sh_ b) (nn b) s.heap M H locs → lv_has ls 4 [] → W p l e (rm 3 0 0) s m args below meth c H locs 0 0 (MQ below (qq E none (sh_ b) (nn b) M1) args s 0 0 (fr E)) (F0 m 69 ls []) := by
  obtain ⟨hx, hb, hr, hml, hown, hts, hK, hN, hO, hlk, hbs⟩ := id X
  intro M H locs ls hf hR hl
  unfold fX7_settleAt_69 at hf
  cases hf
  exact x_vret hx hb hr hlk hR dX7_settleAt_69
set_option maxHeartbeats 4000000 in
set_option maxRecDepth 100000 in
theorem wX7_settleAt_0 {M1 : Mem} (X : CX E p s m args c meth cX7_settleAt 4 none RX7) : ∀ {x1 : Int32} {x2 : Int32} {M : Mem} {H : Heap} {locs : List Loc} {ls : Array Slot}, fX7_settleAt x1 x2 M = some M1 → Rl E (sh_ b) (nn b) s.heap M H locs → lv_has ls 4 [(0, .ref (eB E + 35)), (1, .int x1), (2, .int x2)] → W p l e (rm 3 0 0) s m args below meth c H locs 0 0 (MQ below (qq E none (sh_ b) (nn b) M1) args s 0 0 (fr E)) (F0 m 0 ls []) := by
  obtain ⟨hx, hb, hr, hml, hown, hts, hK, hN, hO, hlk, hbs⟩ := id X
  intro x1 x2 M H locs ls hf hR hl
  unfold fX7_settleAt at hf
  refine lv_aload_n hx hb dX7_settleAt_0 rfl (lv_at hl 0 rfl) ?_
  refine lv_iload_n hx hb dX7_settleAt_1 rfl (lv_at hl 1 rfl) ?_
  refine x_puti hx hb hown hts hK hR kX7 (z_35 b) (j := 1) (by decide) fl_X7_53 rfl rfl rfl rfl dX7_settleAt_2 (fun H locs hR => ?_)
  obtain ⟨M2, e2⟩ : ∃ y : Mem, y = (sI M 35 1 x1) := ⟨_, rfl⟩
  have hf := nx_at e2 hf
  have hR : Rl E (sh_ b) (nn b) s.heap M2 H locs := by rw [e2]; exact hR
  refine lv_aload_n hx hb dX7_settleAt_5 rfl (lv_at hl 0 rfl) ?_
  refine lv_iload_n hx hb dX7_settleAt_6 rfl (lv_at hl 2 rfl) ?_
  refine x_puti hx hb hown hts hK hR kX7 (z_35 b) (j := 2) (by decide) fl_X7_56 rfl rfl rfl rfl dX7_settleAt_7 (fun H locs hR => ?_)
  obtain ⟨M7, e7⟩ : ∃ y : Mem, y = (sI M2 35 2 x2) := ⟨_, rfl⟩
  have hf := nx_at e7 hf
  have hR : Rl E (sh_ b) (nn b) s.heap M7 H locs := by rw [e7]; exact hR
  refine lv_aload_n hx hb dX7_settleAt_10 rfl (lv_at hl 0 rfl) ?_
  refine lv_lconst (v := 0) hx hb dX7_settleAt_11 (by decide) ?_
  refine x_putl hx hb hown hts hK hR kX7 (z_35 b) (j := 3) (by decide) fl_X7_46 rfl rfl rfl rfl dX7_settleAt_12 (fun H locs hR => ?_)
  obtain ⟨M12, e12⟩ : ∃ y : Mem, y = (sL M7 35 3 (0 : Int64)) := ⟨_, rfl⟩
  have hf := nx_at e12 hf
  have hR : Rl E (sh_ b) (nn b) s.heap M12 H locs := by rw [e12]; exact hR
  refine lv_aload_n hx hb dX7_settleAt_15 rfl (lv_at hl 0 rfl) ?_
  refine lv_lconst (v := 1) hx hb dX7_settleAt_16 (by decide) ?_
  refine x_putl hx hb hown hts hK hR kX7 (z_35 b) (j := 4) (by decide) fl_X7_9 rfl rfl rfl rfl dX7_settleAt_17 (fun H locs hR => ?_)
  obtain ⟨M17, e17⟩ : ∃ y : Mem, y = (sL M12 35 4 (1 : Int64)) := ⟨_, rfl⟩
  have hf := nx_at e17 hf
  have hR : Rl E (sh_ b) (nn b) s.heap M17 H locs := by rw [e17]; exact hR
  refine lv_iconst (v := 0) hx hb dX7_settleAt_20 (by decide) ?_
  refine lv_istore_n (lv' := [(3, .int (0 : Int32)), (0, .ref (eB E + 35)), (1, .int x1), (2, .int x2)]) hx hb dX7_settleAt_21 rfl hl (by decide) rfl (fun ls hl => ?_)
  exact wX7_settleAt_22 X (fun hf hR hl => wX7_settleAt_69 X hf hR hl) FU hf hR (lv_sub hl [1, 2, 3, 0] rfl)
theorem ctX7_settleAt {l : Launch} {E : Ge} {b : Bool} {M : Mem} {x1 : Int32} {x2 : Int32} {M1 : Mem} (h : fX7_settleAt x1 x2 M = some M1) : CT l E yX7_settleAt cX7_settleAt 4 none 3 0 0 [.ref (eB E + 35), .int x1, .int x2] none (sh_ b) (nn b) M (sh_ b) (nn b) M1 := by
  refine met_of (by decide) (Nat.le_of_ble_eq_true rfl) ?_
  intro p e s m args below meth c X _ hR ls hl
  exact wX7_settleAt_0 X h hR hl
def fX7_refresh_81 (k60 : Int32 → Int32 → Mem → Option Mem) (k87 : Int32 → Mem → Option Mem) (x1 : Int32) (x2 : Int32) (M : Mem) : Option Mem := nx (x2 + (1 : Int32)) (fun v81 => k60 x1 v81 M)
def fX7_refresh_60 (k87 : Int32 → Mem → Option Mem) : Nat → Int32 → Int32 → Mem → Option Mem
  | 0, _, _, _ => none
  | n + 1, x1, x2, M => (if (100 : Int32) ≤ x2 then k87 x1 M else (fX7_isNearer x1 x2 M).bind (fun q69 => (if q69.1 = 0 then fX7_refresh_81 (fX7_refresh_60 k87 n) k87 x1 x2 (q69.2) else (fX7_settleAt x1 x2 q69.2).bind (fun q78 => fX7_refresh_81 (fX7_refresh_60 k87 n) k87 x1 x2 q78))))
def fX7_refresh_87 (k52 : Int32 → Mem → Option Mem) (k93 : Mem → Option Mem) (x1 : Int32) (M : Mem) : Option Mem := nx (x1 + (1 : Int32)) (fun v87 => k52 v87 M)
def fX7_refresh_52 (k93 : Mem → Option Mem) : Nat → Int32 → Mem → Option Mem
  | 0, _, _ => none
  | n + 1, x1, M => (if (100 : Int32) ≤ x1 then k93 M else fX7_refresh_60 (fX7_refresh_87 (fX7_refresh_52 k93 n) k93) FU x1 (0 : Int32) M)
def fX7_refresh_131 (M : Mem) : Option Mem := some M
def fX7_refresh_93 (M : Mem) : Option Mem := (fX10_commonPart M (M.2 35 3) (M.2 35 4)).bind (fun q101 => (if (lg_cmp q101 (1 : Int64)) ≤ 0 then fX7_refresh_131 M else (if ¬ q101 = 0 then nx (sL M 35 3 ((M.2 35 3) / q101)) (fun M118 => (if ¬ q101 = 0 then nx (sL M118 35 4 ((M118.2 35 4) / q101)) (fun M128 => fX7_refresh_131 M128) else none)) else none)))
def fX7_refresh (M : Mem) : Option Mem := (if (M.1 35 6) = (M.1 1 14) then some M else nx (sI M 35 6 (M.1 1 14)) (fun M29 => (fX2_refresh M29).bind (fun q36 => nx (sI q36 35 5 (0 : Int32)) (fun M41 => (fX7_settleAt (0 : Int32) (0 : Int32) M41).bind (fun q47 => fX7_refresh_52 fX7_refresh_93 FU (0 : Int32) q47)))))
set_option maxHeartbeats 4000000 in
set_option maxRecDepth 100000 in
theorem wX7_refresh_81 {M1 : Mem} {k60 : Int32 → Int32 → Mem → Option Mem} {k87 : Int32 → Mem → Option Mem} (X : CX E p s m args c meth cX7_refresh 3 none RX7) (hk60 : ∀ {x1 : Int32} {x2 : Int32} {M : Mem} {H : Heap} {locs : List Loc} {ls : Array Slot}, k60 x1 x2 M = some M1 → Rl E (sh_ b) (nn b) s.heap M H locs → lv_has ls 3 [(0, .ref (eB E + 35)), (1, .int x1), (2, .int x2)] → W p l e (rm 6 0 0) s m args below meth c H locs 0 0 (MQ below (qq E none (sh_ b) (nn b) M1) args s 0 0 (fr E)) (F0 m 60 ls [])) (hk87 : ∀ {x1 : Int32} {M : Mem} {H : Heap} {locs : List Loc} {ls : Array Slot}, k87 x1 M = some M1 → Rl E (sh_ b) (nn b) s.heap M H locs → lv_has ls 3 [(0, .ref (eB E + 35)), (1, .int x1)] → W p l e (rm 6 0 0) s m args below meth c H locs 0 0 (MQ below (qq E none (sh_ b) (nn b) M1) args s 0 0 (fr E)) (F0 m 87 ls [])) : ∀ {x1 : Int32} {x2 : Int32} {M : Mem} {H : Heap} {locs : List Loc} {ls : Array Slot}, fX7_refresh_81 k60 k87 x1 x2 M = some M1 → Rl E (sh_ b) (nn b) s.heap M H locs → lv_has ls 3 [(0, .ref (eB E + 35)), (1, .int x1), (2, .int x2)] → W p l e (rm 6 0 0) s m args below meth c H locs 0 0 (MQ below (qq E none (sh_ b) (nn b) M1) args s 0 0 (fr E)) (F0 m 81 ls []) := by
  obtain ⟨hx, hb, hr, hml, hown, hts, hK, hN, hO, hlk, hbs⟩ := id X
  intro x1 x2 M H locs ls hf hR hl
  unfold fX7_refresh_81 at hf
  obtain ⟨v81, e81⟩ : ∃ y : Int32, y = (x2 + (1 : Int32)) := ⟨_, rfl⟩
  have hf := nx_at e81 hf
  refine lv_iinc (v := v81) (lv' := [(2, .int v81), (0, .ref (eB E + 35)), (1, .int x1)]) hx hb dX7_refresh_81 hl (k := 2) rfl (by rw [e81]; rfl) (by decide) rfl (fun ls hl => ?_)
  refine lv_goto (tgt := 60) hx hb dX7_refresh_84 (by decide) ?_
  exact hk60 hf hR (lv_sub hl [1, 2, 0] rfl)
set_option maxHeartbeats 4000000 in
set_option maxRecDepth 100000 in
theorem wX7_refresh_60 {M1 : Mem} {k87 : Int32 → Mem → Option Mem} (X : CX E p s m args c meth cX7_refresh 3 none RX7) (hk87 : ∀ {x1 : Int32} {M : Mem} {H : Heap} {locs : List Loc} {ls : Array Slot}, k87 x1 M = some M1 → Rl E (sh_ b) (nn b) s.heap M H locs → lv_has ls 3 [(0, .ref (eB E + 35)), (1, .int x1)] → W p l e (rm 6 0 0) s m args below meth c H locs 0 0 (MQ below (qq E none (sh_ b) (nn b) M1) args s 0 0 (fr E)) (F0 m 87 ls [])) : ∀ (n : Nat) {x1 : Int32} {x2 : Int32} {M : Mem} {H : Heap} {locs : List Loc} {ls : Array Slot}, fX7_refresh_60 k87 n x1 x2 M = some M1 → Rl E (sh_ b) (nn b) s.heap M H locs → lv_has ls 3 [(0, .ref (eB E + 35)), (1, .int x1), (2, .int x2)] → W p l e (rm 6 0 0) s m args below meth c H locs 0 0 (MQ below (qq E none (sh_ b) (nn b) M1) args s 0 0 (fr E)) (F0 m 60 ls []) := by
  obtain ⟨hx, hb, hr, hml, hown, hts, hK, hN, hO, hlk, hbs⟩ := id X
  intro n
  induction n with
  | zero =>
    intro x1 x2 M H locs ls hf hR hl
    exact absurd (show none = some _ from hf) (fun h => by cases h)
  | succ n ih =>
    intro x1 x2 M H locs ls hf hR hl
    rw [fX7_refresh_60] at hf
    refine lv_iload_n hx hb dX7_refresh_60 rfl (lv_at hl 2 rfl) ?_
    refine lv_bipush (v := 100) hx hb dX7_refresh_61 (by decide) ?_
    refine lv_icmp_ge (tgt := 87) hx hb dX7_refresh_63 (by decide) (fun q63 => ?_) (fun q63 => ?_)
    · have hf := (br_if hf).1 q63
      exact hk87 hf hR (lv_sub hl [0, 1] rfl)
    · have hf := (br_if hf).2 q63
      refine lv_aload_n hx hb dX7_refresh_66 rfl (lv_at hl 0 rfl) ?_
      refine lv_iload_n hx hb dX7_refresh_67 rfl (lv_at hl 1 rfl) ?_
      refine lv_iload_n hx hb dX7_refresh_68 rfl (lv_at hl 2 rfl) ?_
      obtain ⟨q69, c69, hf⟩ := br_b hf
      refine x_callV (k := 35) (As := [.int x1, .int x2]) (rest := []) (st1 := [.int q69.1]) X hR (ctX7_isNearer c69) ml_X7_42 im_X7_isNearer se_X7_isNearer in_X7 co_X7_isNearer yo_X7_isNearer rfl kX7 (z_35 b) (rm_ok (by decide) (by decide)) rfl hl.1 rfl rfl (Nat.le_of_ble_eq_true rfl) dX7_refresh_69 ⟨Nat.zero_le _, Nat.zero_le _⟩ (fun H locs hR => ?_)
      refine lv_if_eq (tgt := 81) hx hb dX7_refresh_72 (by decide) (fun q72 => ?_) (fun q72 => ?_)
      · have hf := (br_if hf).1 q72
        exact wX7_refresh_81 X (fun hf hR hl => ih hf hR hl) (fun hf hR hl => hk87 hf hR hl) hf hR hl
      · have hf := (br_if hf).2 q72
        refine lv_aload_n hx hb dX7_refresh_75 rfl (lv_at hl 0 rfl) ?_
        refine lv_iload_n hx hb dX7_refresh_76 rfl (lv_at hl 1 rfl) ?_
        refine lv_iload_n hx hb dX7_refresh_77 rfl (lv_at hl 2 rfl) ?_
        obtain ⟨q78, c78, hf⟩ := br_b hf
        refine x_callV (k := 35) (As := [.int x1, .int x2]) (rest := []) (st1 := []) X hR (ctX7_settleAt c78) ml_X7_38 im_X7_settleAt se_X7_settleAt in_X7 co_X7_settleAt yo_X7_settleAt rfl kX7 (z_35 b) (rm_ok (by decide) (by decide)) rfl hl.1 rfl rfl (Nat.le_of_ble_eq_true rfl) dX7_refresh_78 ⟨Nat.zero_le _, Nat.zero_le _⟩ (fun H locs hR => ?_)
        exact wX7_refresh_81 X (fun hf hR hl => ih hf hR hl) (fun hf hR hl => hk87 hf hR hl) hf hR hl
set_option maxHeartbeats 4000000 in
set_option maxRecDepth 100000 in
theorem wX7_refresh_87 {M1 : Mem} {k52 : Int32 → Mem → Option Mem} {k93 : Mem → Option Mem} (X : CX E p s m args c meth cX7_refresh 3 none RX7) (hk52 : ∀ {x1 : Int32} {M : Mem} {H : Heap} {locs : List Loc} {ls : Array Slot}, k52 x1 M = some M1 → Rl E (sh_ b) (nn b) s.heap M H locs → lv_has ls 3 [(0, .ref (eB E + 35)), (1, .int x1)] → W p l e (rm 6 0 0) s m args below meth c H locs 0 0 (MQ below (qq E none (sh_ b) (nn b) M1) args s 0 0 (fr E)) (F0 m 52 ls [])) (hk93 : ∀ {M : Mem} {H : Heap} {locs : List Loc} {ls : Array Slot}, k93 M = some M1 → Rl E (sh_ b) (nn b) s.heap M H locs → lv_has ls 3 [(0, .ref (eB E + 35))] → W p l e (rm 6 0 0) s m args below meth c H locs 0 0 (MQ below (qq E none (sh_ b) (nn b) M1) args s 0 0 (fr E)) (F0 m 93 ls [])) : ∀ {x1 : Int32} {M : Mem} {H : Heap} {locs : List Loc} {ls : Array Slot}, fX7_refresh_87 k52 k93 x1 M = some M1 → Rl E (sh_ b) (nn b) s.heap M H locs → lv_has ls 3 [(0, .ref (eB E + 35)), (1, .int x1)] → W p l e (rm 6 0 0) s m args below meth c H locs 0 0 (MQ below (qq E none (sh_ b) (nn b) M1) args s 0 0 (fr E)) (F0 m 87 ls []) := by
  obtain ⟨hx, hb, hr, hml, hown, hts, hK, hN, hO, hlk, hbs⟩ := id X
  intro x1 M H locs ls hf hR hl
  unfold fX7_refresh_87 at hf
  obtain ⟨v87, e87⟩ : ∃ y : Int32, y = (x1 + (1 : Int32)) := ⟨_, rfl⟩
  have hf := nx_at e87 hf
  refine lv_iinc (v := v87) (lv' := [(1, .int v87), (0, .ref (eB E + 35))]) hx hb dX7_refresh_87 hl (k := 1) rfl (by rw [e87]; rfl) (by decide) rfl (fun ls hl => ?_)
  refine lv_goto (tgt := 52) hx hb dX7_refresh_90 (by decide) ?_
  exact hk52 hf hR (lv_sub hl [1, 0] rfl)
set_option maxHeartbeats 4000000 in
set_option maxRecDepth 100000 in
theorem wX7_refresh_52 {M1 : Mem} {k93 : Mem → Option Mem} (X : CX E p s m args c meth cX7_refresh 3 none RX7) (hk93 : ∀ {M : Mem} {H : Heap} {locs : List Loc} {ls : Array Slot}, k93 M = some M1 → Rl E (sh_ b) (nn b) s.heap M H locs → lv_has ls 3 [(0, .ref (eB E + 35))] → W p l e (rm 6 0 0) s m args below meth c H locs 0 0 (MQ below (qq E none (sh_ b) (nn b) M1) args s 0 0 (fr E)) (F0 m 93 ls [])) : ∀ (n : Nat) {x1 : Int32} {M : Mem} {H : Heap} {locs : List Loc} {ls : Array Slot}, fX7_refresh_52 k93 n x1 M = some M1 → Rl E (sh_ b) (nn b) s.heap M H locs → lv_has ls 3 [(0, .ref (eB E + 35)), (1, .int x1)] → W p l e (rm 6 0 0) s m args below meth c H locs 0 0 (MQ below (qq E none (sh_ b) (nn b) M1) args s 0 0 (fr E)) (F0 m 52 ls []) := by
  obtain ⟨hx, hb, hr, hml, hown, hts, hK, hN, hO, hlk, hbs⟩ := id X
  intro n
  induction n with
  | zero =>
    intro x1 M H locs ls hf hR hl
    exact absurd (show none = some _ from hf) (fun h => by cases h)
  | succ n ih =>
    intro x1 M H locs ls hf hR hl
    rw [fX7_refresh_52] at hf
    refine lv_iload_n hx hb dX7_refresh_52 rfl (lv_at hl 1 rfl) ?_
    refine lv_bipush (v := 100) hx hb dX7_refresh_53 (by decide) ?_
    refine lv_icmp_ge (tgt := 93) hx hb dX7_refresh_55 (by decide) (fun q55 => ?_) (fun q55 => ?_)
    · have hf := (br_if hf).1 q55
      exact hk93 hf hR (lv_sub hl [0] rfl)
    · have hf := (br_if hf).2 q55
      refine lv_iconst (v := 0) hx hb dX7_refresh_58 (by decide) ?_
      refine lv_istore_n (lv' := [(2, .int (0 : Int32)), (0, .ref (eB E + 35)), (1, .int x1)]) hx hb dX7_refresh_59 rfl hl (by decide) rfl (fun ls hl => ?_)
      exact wX7_refresh_60 X (fun hf hR hl => wX7_refresh_87 X (fun hf hR hl => ih hf hR hl) (fun hf hR hl => hk93 hf hR hl) hf hR hl) FU hf hR (lv_sub hl [1, 2, 0] rfl)
set_option maxHeartbeats 4000000 in
set_option maxRecDepth 100000 in
theorem wX7_refresh_131 {M1 : Mem} (X : CX E p s m args c meth cX7_refresh 3 none RX7) : ∀ {M : Mem} {H : Heap} {locs : List Loc} {ls : Array Slot}, fX7_refresh_131 M = some M1 → Rl E (sh_ b) (nn b) s.heap M H locs → lv_has ls 3 [] → W p l e (rm 6 0 0) s m args below meth c H locs 0 0 (MQ below (qq E none (sh_ b) (nn b) M1) args s 0 0 (fr E)) (F0 m 131 ls []) := by
  obtain ⟨hx, hb, hr, hml, hown, hts, hK, hN, hO, hlk, hbs⟩ := id X
  intro M H locs ls hf hR hl
  unfold fX7_refresh_131 at hf
  cases hf
  exact x_vret hx hb hr hlk hR dX7_refresh_131
set_option maxHeartbeats 4000000 in
set_option maxRecDepth 100000 in
theorem wX7_refresh_93 {M1 : Mem} (X : CX E p s m args c meth cX7_refresh 3 none RX7) : ∀ {M : Mem} {H : Heap} {locs : List Loc} {ls : Array Slot}, fX7_refresh_93 M = some M1 → Rl E (sh_ b) (nn b) s.heap M H locs → lv_has ls 3 [(0, .ref (eB E + 35))] → W p l e (rm 6 0 0) s m args below meth c H locs 0 0 (MQ below (qq E none (sh_ b) (nn b) M1) args s 0 0 (fr E)) (F0 m 93 ls []) := by
  obtain ⟨hx, hb, hr, hml, hown, hts, hK, hN, hO, hlk, hbs⟩ := id X
  intro M H locs ls hf hR hl
  unfold fX7_refresh_93 at hf
  refine lv_aload_n hx hb dX7_refresh_93 rfl (lv_at hl 0 rfl) ?_
  refine x_get hx hb hown hts hK hR kX7 (z_35 b) (j := 3) (by decide) fl_X7_46 (v := .long (M.2 35 3)) rfl dX7_refresh_94 ?_
  refine lv_aload_n hx hb dX7_refresh_97 rfl (lv_at hl 0 rfl) ?_
  refine x_get hx hb hown hts hK hR kX7 (z_35 b) (j := 4) (by decide) fl_X7_9 (v := .long (M.2 35 4)) rfl dX7_refresh_98 ?_
  obtain ⟨q101, c101, hf⟩ := br_b hf
  refine x_callSN (As := [.long (M.2 35 3), .long (M.2 35 4)]) (rest := []) (st1 := [.long q101]) X hR (ctX10_commonPart c101) (List.mem_of_getElem? (i := 7) rfl) st_X10_commonPart in_X10 co_X10_commonPart yo_X10_commonPart (rm_ok (by decide) (by decide)) rfl hl.1 rfl rfl (Nat.le_of_ble_eq_true rfl) dX7_refresh_101 ⟨Nat.zero_le _, Nat.zero_le _⟩ (fun H locs hR => ?_)
  refine lv_lstore_n (lv' := [(1, .long q101), (0, .ref (eB E + 35))]) hx hb dX7_refresh_104 rfl hl (by decide) rfl (fun ls hl => ?_)
  refine lv_lload_n hx hb dX7_refresh_105 rfl (lv_at hl 0 rfl) ?_
  refine lv_lconst (v := 1) hx hb dX7_refresh_106 (by decide) ?_
  refine W.lcmp hx hb dX7_refresh_107 ?_
  refine lv_if_le (tgt := 131) hx hb dX7_refresh_108 (by decide) (fun q108 => ?_) (fun q108 => ?_)
  · have hf := (br_if hf).1 q108
    exact wX7_refresh_131 X hf hR (lv_sub hl [] rfl)
  · have hf := (br_if hf).2 q108
    refine lv_aload_n hx hb dX7_refresh_111 rfl (lv_at hl 1 rfl) ?_
    refine lv_dup hx hb dX7_refresh_112 rfl ?_
    refine x_get hx hb hown hts hK hR kX7 (z_35 b) (j := 3) (by decide) fl_X7_46 (v := .long (M.2 35 3)) rfl dX7_refresh_113 ?_
    refine lv_lload_n hx hb dX7_refresh_116 rfl (lv_at hl 0 rfl) ?_
    obtain ⟨g117, hf⟩ := br_g hf
    refine lv_ldiv hx hb dX7_refresh_117 g117 ?_
    refine x_putl hx hb hown hts hK hR kX7 (z_35 b) (j := 3) (by decide) fl_X7_46 rfl rfl rfl rfl dX7_refresh_118 (fun H locs hR => ?_)
    obtain ⟨M118, e118⟩ : ∃ y : Mem, y = (sL M 35 3 ((M.2 35 3) / q101)) := ⟨_, rfl⟩
    have hf := nx_at e118 hf
    have hR : Rl E (sh_ b) (nn b) s.heap M118 H locs := by rw [e118]; exact hR
    refine lv_aload_n hx hb dX7_refresh_121 rfl (lv_at hl 1 rfl) ?_
    refine lv_dup hx hb dX7_refresh_122 rfl ?_
    refine x_get hx hb hown hts hK hR kX7 (z_35 b) (j := 4) (by decide) fl_X7_9 (v := .long (M118.2 35 4)) rfl dX7_refresh_123 ?_
    refine lv_lload_n hx hb dX7_refresh_126 rfl (lv_at hl 0 rfl) ?_
    obtain ⟨g127, hf⟩ := br_g hf
    refine lv_ldiv hx hb dX7_refresh_127 g127 ?_
    refine x_putl hx hb hown hts hK hR kX7 (z_35 b) (j := 4) (by decide) fl_X7_9 rfl rfl rfl rfl dX7_refresh_128 (fun H locs hR => ?_)
    obtain ⟨M128, e128⟩ : ∃ y : Mem, y = (sL M118 35 4 ((M118.2 35 4) / q101)) := ⟨_, rfl⟩
    have hf := nx_at e128 hf
    have hR : Rl E (sh_ b) (nn b) s.heap M128 H locs := by rw [e128]; exact hR
    exact wX7_refresh_131 X hf hR (lv_sub hl [] rfl)
set_option maxHeartbeats 4000000 in
set_option maxRecDepth 100000 in
theorem wX7_refresh_0 {M1 : Mem} (X : CX E p s m args c meth cX7_refresh 3 none RX7) : ∀ {M : Mem} {H : Heap} {locs : List Loc} {ls : Array Slot}, fX7_refresh M = some M1 → Rl E (sh_ b) (nn b) s.heap M H locs → lv_has ls 3 [(0, .ref (eB E + 35))] → W p l e (rm 6 0 0) s m args below meth c H locs 0 0 (MQ below (qq E none (sh_ b) (nn b) M1) args s 0 0 (fr E)) (F0 m 0 ls []) := by
  obtain ⟨hx, hb, hr, hml, hown, hts, hK, hN, hO, hlk, hbs⟩ := id X
  intro M H locs ls hf hR hl
  unfold fX7_refresh at hf
  refine lv_aload_n hx hb dX7_refresh_0 rfl (lv_at hl 0 rfl) ?_
  refine x_get hx hb hown hts hK hR kX7 (z_35 b) (j := 6) (by decide) fl_X7_15 (v := .int (M.1 35 6)) rfl dX7_refresh_1 ?_
  refine lv_aload_n hx hb dX7_refresh_4 rfl (lv_at hl 0 rfl) ?_
  refine x_get hx hb hown hts hK hR kX7 (z_35 b) (j := 0) (by decide) fl_X7_19 (v := .ref (eB E + 26)) rfl dX7_refresh_5 ?_
  refine x_get hx hb hown hts hK hR kX2 (z_26 b) (j := 0) (by decide) fl_X7_23 (v := .ref (eB E + 1)) rfl dX7_refresh_8 ?_
  refine x_get hx hb hown hts hK hR kX8 (z_1 b) (j := 14) (by decide) fl_X7_29 (v := .int (M.1 1 14)) rfl dX7_refresh_11 ?_
  refine lv_icmp_ne (tgt := 18) hx hb dX7_refresh_14 (by decide) (fun q14 => ?_) (fun q14 => ?_)
  · have hf := (br_if hf).2 q14
    refine lv_aload_n hx hb dX7_refresh_18 rfl (lv_at hl 0 rfl) ?_
    refine lv_aload_n hx hb dX7_refresh_19 rfl (lv_at hl 0 rfl) ?_
    refine x_get hx hb hown hts hK hR kX7 (z_35 b) (j := 0) (by decide) fl_X7_19 (v := .ref (eB E + 26)) rfl dX7_refresh_20 ?_
    refine x_get hx hb hown hts hK hR kX2 (z_26 b) (j := 0) (by decide) fl_X7_23 (v := .ref (eB E + 1)) rfl dX7_refresh_23 ?_
    refine x_get hx hb hown hts hK hR kX8 (z_1 b) (j := 14) (by decide) fl_X7_29 (v := .int (M.1 1 14)) rfl dX7_refresh_26 ?_
    refine x_puti hx hb hown hts hK hR kX7 (z_35 b) (j := 6) (by decide) fl_X7_15 rfl rfl rfl rfl dX7_refresh_29 (fun H locs hR => ?_)
    obtain ⟨M29, e29⟩ : ∃ y : Mem, y = (sI M 35 6 (M.1 1 14)) := ⟨_, rfl⟩
    have hf := nx_at e29 hf
    have hR : Rl E (sh_ b) (nn b) s.heap M29 H locs := by rw [e29]; exact hR
    refine lv_aload_n hx hb dX7_refresh_32 rfl (lv_at hl 0 rfl) ?_
    refine x_get hx hb hown hts hK hR kX7 (z_35 b) (j := 0) (by decide) fl_X7_19 (v := .ref (eB E + 26)) rfl dX7_refresh_33 ?_
    obtain ⟨q36, c36, hf⟩ := br_b hf
    refine x_callV (k := 26) (As := []) (rest := []) (st1 := []) X hR (ctX2_refresh c36) ml_X7_32 im_X2_refresh se_X2_refresh in_X2 co_X2_refresh yo_X2_refresh rfl kX2 (z_26 b) (rm_ok (by decide) (by decide)) rfl hl.1 rfl rfl (Nat.le_of_ble_eq_true rfl) dX7_refresh_36 ⟨Nat.zero_le _, Nat.zero_le _⟩ (fun H locs hR => ?_)
    refine lv_aload_n hx hb dX7_refresh_39 rfl (lv_at hl 0 rfl) ?_
    refine lv_iconst (v := 0) hx hb dX7_refresh_40 (by decide) ?_
    refine x_puti hx hb hown hts hK hR kX7 (z_35 b) (j := 5) (by decide) fl_X7_35 rfl rfl rfl rfl dX7_refresh_41 (fun H locs hR => ?_)
    obtain ⟨M41, e41⟩ : ∃ y : Mem, y = (sI q36 35 5 (0 : Int32)) := ⟨_, rfl⟩
    have hf := nx_at e41 hf
    have hR : Rl E (sh_ b) (nn b) s.heap M41 H locs := by rw [e41]; exact hR
    refine lv_aload_n hx hb dX7_refresh_44 rfl (lv_at hl 0 rfl) ?_
    refine lv_iconst (v := 0) hx hb dX7_refresh_45 (by decide) ?_
    refine lv_iconst (v := 0) hx hb dX7_refresh_46 (by decide) ?_
    obtain ⟨q47, c47, hf⟩ := br_b hf
    refine x_callV (k := 35) (As := [.int (0 : Int32), .int (0 : Int32)]) (rest := []) (st1 := []) X hR (ctX7_settleAt c47) ml_X7_38 im_X7_settleAt se_X7_settleAt in_X7 co_X7_settleAt yo_X7_settleAt rfl kX7 (z_35 b) (rm_ok (by decide) (by decide)) rfl hl.1 rfl rfl (Nat.le_of_ble_eq_true rfl) dX7_refresh_47 ⟨Nat.zero_le _, Nat.zero_le _⟩ (fun H locs hR => ?_)
    refine lv_iconst (v := 0) hx hb dX7_refresh_50 (by decide) ?_
    refine lv_istore_n (lv' := [(1, .int (0 : Int32)), (0, .ref (eB E + 35))]) hx hb dX7_refresh_51 rfl hl (by decide) rfl (fun ls hl => ?_)
    exact wX7_refresh_52 X (fun hf hR hl => wX7_refresh_93 X hf hR hl) FU hf hR (lv_sub hl [1, 0] rfl)
  · have hf := (br_if hf).1 q14
    cases hf
    exact x_vret hx hb hr hlk hR dX7_refresh_17
theorem ctX7_refresh {l : Launch} {E : Ge} {b : Bool} {M : Mem} {M1 : Mem} (h : fX7_refresh M = some M1) : CT l E yX7_refresh cX7_refresh 3 none 6 0 0 [.ref (eB E + 35)] none (sh_ b) (nn b) M (sh_ b) (nn b) M1 := by
  refine met_of (by decide) (Nat.le_of_ble_eq_true rfl) ?_
  intro p e s m args below meth c X _ hR ls hl
  exact wX7_refresh_0 X h hR hl
end WK
