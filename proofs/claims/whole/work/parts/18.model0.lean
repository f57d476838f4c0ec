section WK
variable {p : Program} {l : Launch} {e : Env} {s : State} {m : MethodId} {args : Array Value} {below : List Frame} {meth : Method} {c : Code} {E : Ge} {b : Bool}
def fX11_isAhead_36 (M : Mem) (s0 : Int32) : Option Int32 := some (s0 &&& 1)
def fX11_isAhead_92 (M : Mem) (s0 : Int32) : Option Int32 := some (s0 &&& 1)
def fX11_isAhead_24 (M : Mem) (x1 : Int32) (x2 : Int32) (x3 : Int32) (x4 : Int32) (s0 : Int32) (s1 : Int32) : Option Int32 := (if s0 = s1 then (if inb x4 105 = true then (if inb x4 105 = true then nx ((x2 * (M.1 79 (ix x4))) - ((M.1 80 (ix x4)) * x1)) (fun v56 => (if v56 = 0 then (if inb x4 105 = true then (if (M.1 81 (ix x4)) ≤ x3 then fX11_isAhead_92 M (0 : Int32) else fX11_isAhead_92 M (1 : Int32)) else none) else (if 0 ≤ v56 then fX11_isAhead_92 M (0 : Int32) else fX11_isAhead_92 M (1 : Int32)))) else none) else none) else (if x1 = 0 then fX11_isAhead_36 M (0 : Int32) else fX11_isAhead_36 M (1 : Int32)))
def fX11_isAhead_9 (M : Mem) (x1 : Int32) (x2 : Int32) (x3 : Int32) (x4 : Int32) (s0 : Int32) : Option Int32 := (if inb x4 105 = true then (if (M.1 79 (ix x4)) = 0 then fX11_isAhead_24 M x1 x2 x3 x4 s0 (1 : Int32) else fX11_isAhead_24 M x1 x2 x3 x4 s0 (0 : Int32)) else none)
def fX11_isAhead (M : Mem) (x1 : Int32) (x2 : Int32) (x3 : Int32) (x4 : Int32) : Option Int32 := (if x1 = 0 then fX11_isAhead_9 M x1 x2 x3 x4 (1 : Int32) else fX11_isAhead_9 M x1 x2 x3 x4 (0 : Int32))
set_option maxHeartbeats 4000000 in
set_option maxRecDepth 100000 in
theorem wX11_isAhead_36 {r : Int32} {M : Mem} (X : CX E p s m args c meth cX11_isAhead 6 (some .boolean) RX11) : ∀ {s0 : Int32} {H : Heap} {locs : List Loc} {ls : Array Slot}, fX11_isAhead_36 M s0 = some r → Rl E (sh_ b) (nn b) s.heap M H locs → lv_has ls 6 [] → W p l e (rm 1 0 0) s m args below meth c H locs 0 0 (MQ below (qq E (some (.int r)) (sh_ b) (nn b) M) args s 0 0 (fr E)) (F0 m 36 ls [.int s0]) := by
  obtain ⟨hx, hb, hr, hml, hown, hts, hK, hN, hO, hlk, hbs⟩ := id X
  intro s0 H locs ls hf hR hl
  unfold fX11_isAhead_36 at hf
  cases hf
  exact x_zret hx hb hr hlk hR rfl dX11_isAhead_36
set_option maxHeartbeats 4000000 in
set_option maxRecDepth 100000 in
theorem wX11_isAhead_92 {r : Int32} {M : Mem} (X : CX E p s m args c meth cX11_isAhead 6 (some .boolean) RX11) : ∀ {s0 : Int32} {H : Heap} {locs : List Loc} {ls : Array Slot}, fX11_isAhead_92 M s0 = some r → Rl E (sh_ b) (nn b) s.heap M H locs → lv_has ls 6 [] → W p l e (rm 1 0 0) s m args below meth c H locs 0 0 (MQ below (qq E (some (.int r)) (sh_ b) (nn b) M) args s 0 0 (fr E)) (F0 m 92 ls [.int s0]) := by
  obtain ⟨hx, hb, hr, hml, hown, hts, hK, hN, hO, hlk, hbs⟩ := id X
  intro s0 H locs ls hf hR hl
  unfold fX11_isAhead_92 at hf
  cases hf
  exact x_zret hx hb hr hlk hR rfl dX11_isAhead_92
set_option maxHeartbeats 4000000 in
set_option maxRecDepth 100000 in
theorem wX11_isAhead_24 {r : Int32} {M : Mem} (X : CX E p s m args c meth cX11_isAhead 6 (some .boolean) RX11) : ∀ {x1 : Int32} {x2 : Int32} {x3 : Int32} {x4 : Int32} {s0 : Int32} {s1 : Int32} {H : Heap} {locs : List Loc} {ls : Array Slot}, fX11_isAhead_24 M x1 x2 x3 x4 s0 s1 = some r → Rl E (sh_ b) (nn b) s.heap M H locs → lv_has ls 6 [(0, .ref (eB E + 47)), (1, .int x1), (2, .int x2), (3, .int x3), (4, .int x4)] → W p l e (rm 1 0 0) s m args below meth c H locs 0 0 (MQ below (qq E (some (.int r)) (sh_ b) (nn b) M) args s 0 0 (fr E)) (F0 m 24 ls [.int s1, .int s0]) := by
  obtain ⟨hx, hb, hr, hml, hown, hts, hK, hN, hO, hlk, hbs⟩ := id X
  intro x1 x2 x3 x4 s0 s1 H locs ls hf hR hl
  unfold fX11_isAhead_24 at hf
  refine lv_icmp_eq (tgt := 37) hx hb dX11_isAhead_24 (by decide) (fun q24 => ?_) (fun q24 => ?_)
  · have hf := (br_if hf).1 q24
    refine lv_iload_n hx hb dX11_isAhead_37 rfl (lv_at hl 2 rfl) ?_
    refine lv_aload_n hx hb dX11_isAhead_38 rfl (lv_at hl 0 rfl) ?_
    refine x_get hx hb hown hts hK hR kX11 (z_47 b) (j := 24) (by decide) fl_X11_69 (v := .ref (eB E + 79)) rfl dX11_isAhead_39 ?_
    refine lv_iload hx hb dX11_isAhead_42 (lv_at hl 4 rfl) ?_
    obtain ⟨g44, hf⟩ := br_g hf
    refine x_iald hx hb hK hR (z_79 b) g44 dX11_isAhead_44 ?_
    refine lv_imul hx hb dX11_isAhead_45 ?_
    refine lv_aload_n hx hb dX11_isAhead_46 rfl (lv_at hl 0 rfl) ?_
    refine x_get hx hb hown hts hK hR kX11 (z_47 b) (j := 25) (by decide) fl_X11_72 (v := .ref (eB E + 80)) rfl dX11_isAhead_47 ?_
    refine lv_iload hx hb dX11_isAhead_50 (lv_at hl 4 rfl) ?_
    obtain ⟨g52, hf⟩ := br_g hf
    refine x_iald hx hb hK hR (z_80 b) g52 dX11_isAhead_52 ?_
    refine lv_iload_n hx hb dX11_isAhead_53 rfl (lv_at hl 1 rfl) ?_
    refine lv_imul hx hb dX11_isAhead_54 ?_
    refine lv_isub hx hb dX11_isAhead_55 ?_
    refine lv_topi (fun v56 e56 => ?_)
    have hf := nx_at e56 hf
    refine lv_istore (lv' := [(5, .int v56), (0, .ref (eB E + 47)), (1, .int x1), (2, .int x2), (3, .int x3), (4, .int x4)]) hx hb dX11_isAhead_56 hl (by decide) rfl (fun ls hl => ?_)
    refine lv_iload hx hb dX11_isAhead_58 (lv_at hl 0 rfl) ?_
    refine lv_if_eq (tgt := 76) hx hb dX11_isAhead_60 (by decide) (fun q60 => ?_) (fun q60 => ?_)
    · have hf := (br_if hf).1 q60
      refine lv_iload_n hx hb dX11_isAhead_76 rfl (lv_at hl 4 rfl) ?_
      refine lv_aload_n hx hb dX11_isAhead_77 rfl (lv_at hl 1 rfl) ?_
      refine x_get hx hb hown hts hK hR kX11 (z_47 b) (j := 26) (by decide) fl_X11_75 (v := .ref (eB E + 81)) rfl dX11_isAhead_78 ?_
      refine lv_iload hx hb dX11_isAhead_81 (lv_at hl 5 rfl) ?_
      obtain ⟨g83, hf⟩ := br_g hf
      refine x_iald hx hb hK hR (z_81 b) g83 dX11_isAhead_83 ?_
      refine lv_icmp_ge (tgt := 91) hx hb dX11_isAhead_84 (by decide) (fun q84 => ?_) (fun q84 => ?_)
      · have hf := (br_if hf).1 q84
        refine lv_iconst (v := 0) hx hb dX11_isAhead_91 (by decide) ?_
        exact wX11_isAhead_92 X hf hR (lv_sub hl [] rfl)
      · have hf := (br_if hf).2 q84
        refine lv_iconst (v := 1) hx hb dX11_isAhead_87 (by decide) ?_
        refine lv_goto (tgt := 92) hx hb dX11_isAhead_88 (by decide) ?_
        exact wX11_isAhead_92 X hf hR (lv_sub hl [] rfl)
    · have hf := (br_if hf).2 q60
      refine lv_iload hx hb dX11_isAhead_63 (lv_at hl 0 rfl) ?_
      refine lv_if_ge (tgt := 72) hx hb dX11_isAhead_65 (by decide) (fun q65 => ?_) (fun q65 => ?_)
      · have hf := (br_if hf).1 q65
        refine lv_iconst (v := 0) hx hb dX11_isAhead_72 (by decide) ?_
        refine lv_goto (tgt := 92) hx hb dX11_isAhead_73 (by decide) ?_
        exact wX11_isAhead_92 X hf hR (lv_sub hl [] rfl)
      · have hf := (br_if hf).2 q65
        refine lv_iconst (v := 1) hx hb dX11_isAhead_68 (by decide) ?_
        refine lv_goto (tgt := 92) hx hb dX11_isAhead_69 (by decide) ?_
        exact wX11_isAhead_92 X hf hR (lv_sub hl [] rfl)
  · have hf := (br_if hf).2 q24
    refine lv_iload_n hx hb dX11_isAhead_27 rfl (lv_at hl 1 rfl) ?_
    refine lv_if_eq (tgt := 35) hx hb dX11_isAhead_28 (by decide) (fun q28 => ?_) (fun q28 => ?_)
    · have hf := (br_if hf).1 q28
      refine lv_iconst (v := 0) hx hb dX11_isAhead_35 (by decide) ?_
      exact wX11_isAhead_36 X hf hR (lv_sub hl [] rfl)
    · have hf := (br_if hf).2 q28
      refine lv_iconst (v := 1) hx hb dX11_isAhead_31 (by decide) ?_
      refine lv_goto (tgt := 36) hx hb dX11_isAhead_32 (by decide) ?_
      exact wX11_isAhead_36 X hf hR (lv_sub hl [] rfl)
set_option maxHeartbeats 4000000 in
set_option maxRecDepth 100000 in
theorem wX11_isAhead_9 {r : Int32} {M : Mem} (X : CX E p s m args c meth cX11_isAhead 6 (some .boolean) RX11) : ∀ {x1 : Int32} {x2 : Int32} {x3 : Int32} {x4 : Int32} {s0 : Int32} {H : Heap} {locs : List Loc} {ls : Array Slot}, fX11_isAhead_9 M x1 x2 x3 x4 s0 = some r → Rl E (sh_ b) (nn b) s.heap M H locs → lv_has ls 6 [(0, .ref (eB E + 47)), (1, .int x1), (2, .int x2), (3, .int x3), (4, .int x4)] → W p l e (rm 1 0 0) s m args below meth c H locs 0 0 (MQ below (qq E (some (.int r)) (sh_ b) (nn b) M) args s 0 0 (fr E)) (F0 m 9 ls [.int s0]) := by
  obtain ⟨hx, hb, hr, hml, hown, hts, hK, hN, hO, hlk, hbs⟩ := id X
  intro x1 x2 x3 x4 s0 H locs ls hf hR hl
  unfold fX11_isAhead_9 at hf
  refine lv_aload_n hx hb dX11_isAhead_9 rfl (lv_at hl 0 rfl) ?_
  refine x_get hx hb hown hts hK hR kX11 (z_47 b) (j := 24) (by decide) fl_X11_69 (v := .ref (eB E + 79)) rfl dX11_isAhead_10 ?_
  refine lv_iload hx hb dX11_isAhead_13 (lv_at hl 4 rfl) ?_
  obtain ⟨g15, hf⟩ := br_g hf
  refine x_iald hx hb hK hR (z_79 b) g15 dX11_isAhead_15 ?_
  refine lv_if_ne (tgt := 23) hx hb dX11_isAhead_16 (by decide) (fun q16 => ?_) (fun q16 => ?_)
  · have hf := (br_if hf).2 q16
    refine lv_iconst (v := 0) hx hb dX11_isAhead_23 (by decide) ?_
    exact wX11_isAhead_24 X hf hR hl
  · have hf := (br_if hf).1 q16
    refine lv_iconst (v := 1) hx hb dX11_isAhead_19 (by decide) ?_
    refine lv_goto (tgt := 24) hx hb dX11_isAhead_20 (by decide) ?_
    exact wX11_isAhead_24 X hf hR hl
set_option maxHeartbeats 4000000 in
set_option maxRecDepth 100000 in
theorem wX11_isAhead_0 {r : Int32} {M : Mem} (X : CX E p s m args c meth cX11_isAhead 6 (some .boolean) RX11) : ∀ {x1 : Int32} {x2 : Int32} {x3 : Int32} {x4 : Int32} {H : Heap} {locs : List Loc} {ls : Array Slot}, fX11_isAhead M x1 x2 x3 x4 = some r → Rl E (sh_ b) (nn b) s.heap M H locs → lv_has ls 6 [(0, .ref (eB E + 47)), (1, .int x1), (2, .int x2), (3, .int x3), (4, .int x4)] → W p l e (rm 1 0 0) s m args below meth c H locs 0 0 (MQ below (qq E (some (.int r)) (sh_ b) (nn b) M) args s 0 0 (fr E)) (F0 m 0 ls []) := by
  obtain ⟨hx, hb, hr, hml, hown, hts, hK, hN, hO, hlk, hbs⟩ := id X
  intro x1 x2 x3 x4 H locs ls hf hR hl
  unfold fX11_isAhead at hf
  refine lv_iload_n hx hb dX11_isAhead_0 rfl (lv_at hl 1 rfl) ?_
  refine lv_if_ne (tgt := 8) hx hb dX11_isAhead_1 (by decide) (fun q1 => ?_) (fun q1 => ?_)
  · have hf := (br_if hf).2 q1
    refine lv_iconst (v := 0) hx hb dX11_isAhead_8 (by decide) ?_
    exact wX11_isAhead_9 X hf hR hl
  · have hf := (br_if hf).1 q1
    refine lv_iconst (v := 1) hx hb dX11_isAhead_4 (by decide) ?_
    refine lv_goto (tgt := 9) hx hb dX11_isAhead_5 (by decide) ?_
    exact wX11_isAhead_9 X hf hR hl
theorem ctX11_isAhead {l : Launch} {E : Ge} {b : Bool} {M : Mem} {x1 : Int32} {x2 : Int32} {x3 : Int32} {x4 : Int32} {r : Int32} (h : fX11_isAhead M x1 x2 x3 x4 = some r) : CT l E yX11_isAhead cX11_isAhead 6 (some .boolean) 1 0 0 [.ref (eB E + 47), .int x1, .int x2, .int x3, .int x4] (some (.int r)) (sh_ b) (nn b) M (sh_ b) (nn b) M := by
  refine met_of (by decide) (Nat.le_of_ble_eq_true rfl) ?_
  intro p e s m args below meth c X _ hR ls hl
  exact wX11_isAhead_0 X h hR hl
def fX11_addsLine_46 (k3 : Int32 → Int32 → Int32 → Int32 → Mem → Option Mem) (k45 : Mem → Option Mem) (k52 : Int32 → Int32 → Int32 → Mem → Option Mem) (x1 : Int32) (x2 : Int32) (x3 : Int32) (x4 : Int32) (M : Mem) : Option Mem := nx (x4 + (1 : Int32)) (fun v46 => k3 x1 x2 x3 v46 M)
def fX11_addsLine_3 (k45 : Mem → Option Mem) (k52 : Int32 → Int32 → Int32 → Mem → Option Mem) : Nat → Int32 → Int32 → Int32 → Int32 → Mem → Option Mem
  | 0, _, _, _, _, _ => none
  | n + 1, x1, x2, x3, x4, M => (if (M.1 47 27) ≤ x4 then k52 x1 x2 x3 M else (if inb x4 105 = true then (if (M.1 79 (ix x4)) = x1 then (if inb x4 105 = true then (if (M.1 80 (ix x4)) = x2 then (if inb x4 105 = true then (if (M.1 81 (ix x4)) = x3 then k45 M else fX11_addsLine_46 (fX11_addsLine_3 k45 k52 n) k45 k52 x1 x2 x3 x4 M) else none) else fX11_addsLine_46 (fX11_addsLine_3 k45 k52 n) k45 k52 x1 x2 x3 x4 M) else none) else fX11_addsLine_46 (fX11_addsLine_3 k45 k52 n) k45 k52 x1 x2 x3 x4 M) else none))
def fX11_addsLine_45 (M : Mem) : Option Mem := some M
def fX11_addsLine_58 (k131 : Int32 → Int32 → Int32 → Int32 → Mem → Option Mem) : Nat → Int32 → Int32 → Int32 → Int32 → Mem → Option Mem
  | 0, _, _, _, _, _ => none
  | n + 1, x1, x2, x3, x4, M => (if x4 ≤ 0 then k131 x1 x2 x3 x4 M else (fX11_isAhead M x1 x2 x3 (x4 - (1 : Int32))).bind (fun q71 => (if q71 = 0 then k131 x1 x2 x3 x4 M else (if inb (x4 - (1 : Int32)) 105 = true then (if inb x4 105 = true then nx (sI M 79 (ix x4) (M.1 79 (ix (x4 - (1 : Int32))))) (fun M92 => (if inb (x4 - (1 : Int32)) 105 = true then (if inb x4 105 = true then nx (sI M92 80 (ix x4) (M92.1 80 (ix (x4 - (1 : Int32))))) (fun M108 => (if inb (x4 - (1 : Int32)) 105 = true then (if inb x4 105 = true then nx (sI M108 81 (ix x4) (M108.1 81 (ix (x4 - (1 : Int32))))) (fun M124 => nx (x4 + (-1 : Int32)) (fun v125 => fX11_addsLine_58 k131 n x1 x2 x3 v125 M124)) else none) else none)) else none) else none)) else none) else none))))
def fX11_addsLine_131 (x1 : Int32) (x2 : Int32) (x3 : Int32) (x4 : Int32) (M : Mem) : Option Mem := (if inb x4 105 = true then nx (sI M 79 (ix x4) x1) (fun M138 => (if inb x4 105 = true then nx (sI M138 80 (ix x4) x2) (fun M146 => (if inb x4 105 = true then nx (sI M146 81 (ix x4) x3) (fun M154 => nx (sI M154 47 27 ((M154.1 47 27) + (1 : Int32))) (fun M162 => some M162)) else none)) else none)) else none)
def fX11_addsLine_52 (x1 : Int32) (x2 : Int32) (x3 : Int32) (M : Mem) : Option Mem := nx (M.1 47 27) (fun v56 => fX11_addsLine_58 fX11_addsLine_131 FU x1 x2 x3 v56 M)
def fX11_addsLine (x1 : Int32) (x2 : Int32) (x3 : Int32) (M : Mem) : Option Mem := fX11_addsLine_3 fX11_addsLine_45 fX11_addsLine_52 FU x1 x2 x3 (0 : Int32) M
set_option maxHeartbeats 4000000 in
set_option maxRecDepth 100000 in
theorem wX11_addsLine_46 {M1 : Mem} {k3 : Int32 → Int32 → Int32 → Int32 → Mem → Option Mem} {k45 : Mem → Option Mem} {k52 : Int32 → Int32 → Int32 → Mem → Option Mem} (X : CX E p s m args c meth cX11_addsLine 5 none RX11) (hk3 : ∀ {x1 : Int32} {x2 : Int32} {x3 : Int32} {x4 : Int32} {M : Mem} {H : Heap} {locs : List Loc} {ls : Array Slot}, k3 x1 x2 x3 x4 M = some M1 → Rl E (sh_ b) (nn b) s.heap M H locs → lv_has ls 5 [(0, .ref (eB E + 47)), (1, .int x1), (2, .int x2), (3, .int x3), (4, .int x4)] → W p l e (rm 2 0 0) s m args below meth c H locs 0 0 (MQ below (qq E none (sh_ b) (nn b) M1) args s 0 0 (fr E)) (F0 m 3 ls [])) (hk45 : ∀ {M : Mem} {H : Heap} {locs : List Loc} {ls : Array Slot}, k45 M = some M1 → Rl E (sh_ b) (nn b) s.heap M H locs → lv_has ls 5 [] → W p l e (rm 2 0 0) s m args below meth c H locs 0 0 (MQ below (qq E none (sh_ b) (nn b) M1) args s 0 0 (fr E)) (F0 m 45 ls [])) (hk52 : ∀ {x1 : Int32} {x2 : Int32} {x3 : Int32} {M : Mem} {H : Heap} {locs : List Loc} {ls : Array Slot}, k52 x1 x2 x3 M = some M1 → Rl E (sh_ b) (nn b) s.heap M H locs → lv_has ls 5 [(0, .ref (eB E + 47)), (1, .int x1), (2, .int x2), (3, .int x3)] → W p l e (rm 2 0 0) s m args below meth c H locs 0 0 (MQ below (qq E none (sh_ b) (nn b) M1) args s 0 0 (fr E)) (F0 m 52 ls [])) : ∀ {x1 : Int32} {x2 : Int32} {x3 : Int32} {x4 : Int32} {M : Mem} {H : Heap} {locs : List Loc} {ls : Array Slot}, fX11_addsLine_46 k3 k45 k52 x1 x2 x3 x4 M = some M1 → Rl E (sh_ b) (nn b) s.heap M H locs → lv_has ls 5 [(0, .ref (eB E + 47)), (1, .int x1), (2, .int x2), (3, .int x3), (4, .int x4)] → W p l e (rm 2 0 0) s m args below meth c H locs 0 0 (MQ below (qq E none (sh_ b) (nn b) M1) args s 0 0 (fr E)) (F0 m 46 ls []) := by
  obtain ⟨hx, hb, hr, hml, hown, hts, hK, hN, hO, hlk, hbs⟩ := id X
  intro x1 x2 x3 x4 M H locs ls hf hR hl
  unfold fX11_addsLine_46 at hf
  obtain ⟨v46, e46⟩ : ∃ y : Int32, y = (x4 + (1 : Int32)) := ⟨_, rfl⟩
  have hf := nx_at e46 hf
  refine lv_iinc (v := v46) (lv' := [(4, .int v46), (0, .ref (eB E + 47)), (1, .int x1), (2, .int x2), (3, .int x3)]) hx hb dX11_addsLine_46 hl (k := 4) rfl (by rw [e46]; rfl) (by decide) rfl (fun ls hl => ?_)
  refine lv_goto (tgt := 3) hx hb dX11_addsLine_49 (by decide) ?_
  exact hk3 hf hR (lv_sub hl [1, 2, 3, 4, 0] rfl)
set_option maxHeartbeats 4000000 in
set_option maxRecDepth 100000 in
theorem wX11_addsLine_3 {M1 : Mem} {k45 : Mem → Option Mem} {k52 : Int32 → Int32 → Int32 → Mem → Option Mem} (X : CX E p s m args c meth cX11_addsLine 5 none RX11) (hk45 : ∀ {M : Mem} {H : Heap} {locs : List Loc} {ls : Array Slot}, k45 M = some M1 → Rl E (sh_ b) (nn b) s.heap M H locs → lv_has ls 5 [] → W p l e (rm 2 0 0) s m args below meth c H locs 0 0 (MQ below (qq E none (sh_ b) (nn b) M1) args s 0 0 (fr E)) (F0 m 45 ls [])) (hk52 : ∀ {x1 : Int32} {x2 : Int32} {x3 : Int32} {M : Mem} {H : Heap} {locs : List Loc} {ls : Array Slot}, k52 x1 x2 x3 M = some M1 → Rl E (sh_ b) (nn b) s.heap M H locs → lv_has ls 5 [(0, .ref (eB E + 47)), (1, .int x1), (2, .int x2), (3, .int x3)] → W p l e (rm 2 0 0) s m args below meth c H locs 0 0 (MQ below (qq E none (sh_ b) (nn b) M1) args s 0 0 (fr E)) (F0 m 52 ls [])) : ∀ (n : Nat) {x1 : Int32} {x2 : Int32} {x3 : Int32} {x4 : Int32} {M : Mem} {H : Heap} {locs : List Loc} {ls : Array Slot}, fX11_addsLine_3 k45 k52 n x1 x2 x3 x4 M = some M1 → Rl E (sh_ b) (nn b) s.heap M H locs → lv_has ls 5 [(0, .ref (eB E + 47)), (1, .int x1), (2, .int x2), (3, .int x3), (4, .int x4)] → W p l e (rm 2 0 0) s m args below meth c H locs 0 0 (MQ below (qq E none (sh_ b) (nn b) M1) args s 0 0 (fr E)) (F0 m 3 ls []) := by
  obtain ⟨hx, hb, hr, hml, hown, hts, hK, hN, hO, hlk, hbs⟩ := id X
  intro n
  induction n with
  | zero =>
    intro x1 x2 x3 x4 M H locs ls hf hR hl
    exact absurd (show none = some _ from hf) (fun h => by cases h)
  | succ n ih =>
    intro x1 x2 x3 x4 M H locs ls hf hR hl
    rw [fX11_addsLine_3] at hf
    refine lv_iload hx hb dX11_addsLine_3 (lv_at hl 4 rfl) ?_
    refine lv_aload_n hx hb dX11_addsLine_5 rfl (lv_at hl 0 rfl) ?_
    refine x_get hx hb hown hts hK hR kX11 (z_47 b) (j := 27) (by decide) fl_X11_288 (v := .int (M.1 47 27)) rfl dX11_addsLine_6 ?_
    refine lv_icmp_ge (tgt := 52) hx hb dX11_addsLine_9 (by decide) (fun q9 => ?_) (fun q9 => ?_)
    · have hf := (br_if hf).1 q9
      exact hk52 hf hR (lv_sub hl [0, 1, 2, 3] rfl)
    · have hf := (br_if hf).2 q9
      refine lv_aload_n hx hb dX11_addsLine_12 rfl (lv_at hl 0 rfl) ?_
      refine x_get hx hb hown hts hK hR kX11 (z_47 b) (j := 24) (by decide) fl_X11_69 (v := .ref (eB E + 79)) rfl dX11_addsLine_13 ?_
      refine lv_iload hx hb dX11_addsLine_16 (lv_at hl 4 rfl) ?_
      obtain ⟨g18, hf⟩ := br_g hf
      refine x_iald hx hb hK hR (z_79 b) g18 dX11_addsLine_18 ?_
      refine lv_iload_n hx hb dX11_addsLine_19 rfl (lv_at hl 1 rfl) ?_
      refine lv_icmp_ne (tgt := 46) hx hb dX11_addsLine_20 (by decide) (fun q20 => ?_) (fun q20 => ?_)
      · have hf := (br_if hf).2 q20
        exact wX11_addsLine_46 X (fun hf hR hl => ih hf hR hl) (fun hf hR hl => hk45 hf hR hl) (fun hf hR hl => hk52 hf hR hl) hf hR hl
      · have hf := (br_if hf).1 q20
        refine lv_aload_n hx hb dX11_addsLine_23 rfl (lv_at hl 0 rfl) ?_
        refine x_get hx hb hown hts hK hR kX11 (z_47 b) (j := 25) (by decide) fl_X11_72 (v := .ref (eB E + 80)) rfl dX11_addsLine_24 ?_
        refine lv_iload hx hb dX11_addsLine_27 (lv_at hl 4 rfl) ?_
        obtain ⟨g29, hf⟩ := br_g hf
        refine x_iald hx hb hK hR (z_80 b) g29 dX11_addsLine_29 ?_
        refine lv_iload_n hx hb dX11_addsLine_30 rfl (lv_at hl 2 rfl) ?_
        refine lv_icmp_ne (tgt := 46) hx hb dX11_addsLine_31 (by decide) (fun q31 => ?_) (fun q31 => ?_)
        · have hf := (br_if hf).2 q31
          exact wX11_addsLine_46 X (fun hf hR hl => ih hf hR hl) (fun hf hR hl => hk45 hf hR hl) (fun hf hR hl => hk52 hf hR hl) hf hR hl
        · have hf := (br_if hf).1 q31
          refine lv_aload_n hx hb dX11_addsLine_34 rfl (lv_at hl 0 rfl) ?_
          refine x_get hx hb hown hts hK hR kX11 (z_47 b) (j := 26) (by decide) fl_X11_75 (v := .ref (eB E + 81)) rfl dX11_addsLine_35 ?_
          refine lv_iload hx hb dX11_addsLine_38 (lv_at hl 4 rfl) ?_
          obtain ⟨g40, hf⟩ := br_g hf
          refine x_iald hx hb hK hR (z_81 b) g40 dX11_addsLine_40 ?_
          refine lv_iload_n hx hb dX11_addsLine_41 rfl (lv_at hl 3 rfl) ?_
          refine lv_icmp_ne (tgt := 46) hx hb dX11_addsLine_42 (by decide) (fun q42 => ?_) (fun q42 => ?_)
          · have hf := (br_if hf).2 q42
            exact wX11_addsLine_46 X (fun hf hR hl => ih hf hR hl) (fun hf hR hl => hk45 hf hR hl) (fun hf hR hl => hk52 hf hR hl) hf hR hl
          · have hf := (br_if hf).1 q42
            exact hk45 hf hR (lv_sub hl [] rfl)
set_option maxHeartbeats 4000000 in
set_option maxRecDepth 100000 in
theorem wX11_addsLine_45 {M1 : Mem} (X : CX E p s m args c meth cX11_addsLine 5 none RX11) : ∀ {M : Mem} {H : Heap} {locs : List Loc} {ls : Array Slot}, fX11_addsLine_45 M = some M1 → Rl E (sh_ b) (nn b) s.heap M H locs → lv_has ls 5 [] → W p l e (rm 2 0 0) s m args below meth c H locs 0 0 (MQ below (qq E none (sh_ b) (nn b) M1) args s 0 0 (fr E)) (F0 m 45 ls []) := by
  obtain ⟨hx, hb, hr, hml, hown, hts, hK, hN, hO, hlk, hbs⟩ := id X
  intro M H locs ls hf hR hl
  unfold fX11_addsLine_45 at hf
  cases hf
  exact x_vret hx hb hr hlk hR dX11_addsLine_45
set_option maxHeartbeats 4000000 in
set_option maxRecDepth 100000 in
theorem wX11_addsLine_58 {M1 : Mem} {k131 : Int32 → Int32 → Int32 → Int32 → Mem → Option Mem} (X : CX E p s m args c meth cX11_addsLine 5 none RX11) (hk131 : ∀ {x1 : Int32} {x2 : Int32} {x3 : Int32} {x4 : Int32} {M : Mem} {H : Heap} {locs : List Loc} {ls : Array Slot}, k131 x1 x2 x3 x4 M = some M1 → Rl E (sh_ b) (nn b) s.heap M H locs → lv_has ls 5 [(0, .ref (eB E + 47)), (1, .int x1), (2, .int x2), (3, .int x3), (4, .int x4)] → W p l e (rm 2 0 0) s m args below meth c H locs 0 0 (MQ below (qq E none (sh_ b) (nn b) M1) args s 0 0 (fr E)) (F0 m 131 ls [])) : ∀ (n : Nat) {x1 : Int32} {x2 : Int32} {x3 : Int32} {x4 : Int32} {M : Mem} {H : Heap} {locs : List Loc} {ls : Array Slot}, fX11_addsLine_58 k131 n x1 x2 x3 x4 M = some M1 → Rl E (sh_ b) (nn b) s.heap M H locs → lv_has ls 5 [(0, .ref (eB E + 47)), (1, .int x1), (2, .int x2), (3, .int x3), (4, .int x4)] → W p l e (rm 2 0 0) s m args below meth c H locs 0 0 (MQ below (qq E none (sh_ b) (nn b) M1) args s 0 0 (fr E)) (F0 m 58 ls []) := by
  obtain ⟨hx, hb, hr, hml, hown, hts, hK, hN, hO, hlk, hbs⟩ := id X
  intro n
  induction n with
  | zero =>
    intro x1 x2 x3 x4 M H locs ls hf hR hl
    exact absurd (show none = some _ from hf) (fun h => by cases h)
  | succ n ih =>
    intro x1 x2 x3 x4 M H locs ls hf hR hl
    rw [fX11_addsLine_58] at hf
    refine lv_iload hx hb dX11_addsLine_58 (lv_at hl 4 rfl) ?_
    refine lv_if_le (tgt := 131) hx hb dX11_addsLine_60 (by decide) (fun q60 => ?_) (fun q60 => ?_)
    · have hf := (br_if hf).1 q60
      exact hk131 hf hR hl
    · have hf := (br_if hf).2 q60
      refine lv_aload_n hx hb dX11_addsLine_63 rfl (lv_at hl 0 rfl) ?_
      refine lv_iload_n hx hb dX11_addsLine_64 rfl (lv_at hl 1 rfl) ?_
      refine lv_iload_n hx hb dX11_addsLine_65 rfl (lv_at hl 2 rfl) ?_
      refine lv_iload_n hx hb dX11_addsLine_66 rfl (lv_at hl 3 rfl) ?_
      refine lv_iload hx hb dX11_addsLine_67 (lv_at hl 4 rfl) ?_
      refine lv_iconst (v := 1) hx hb dX11_addsLine_69 (by decide) ?_
      refine lv_isub hx hb dX11_addsLine_70 ?_
      obtain ⟨q71, c71, hf⟩ := br_b hf
      refine x_callV (k := 47) (As := [.int x1, .int x2, .int x3, .int (x4 - (1 : Int32))]) (rest := []) (st1 := [.int q71]) X hR (ctX11_isAhead c71) ml_X11_291 im_X11_isAhead se_X11_isAhead in_X11 co_X11_isAhead yo_X11_isAhead rfl kX11 (z_47 b) (rm_ok (by decide) (by decide)) rfl hl.1 rfl rfl (Nat.le_of_ble_eq_true rfl) dX11_addsLine_71 ⟨Nat.zero_le _, Nat.zero_le _⟩ (fun H locs hR => ?_)
      refine lv_if_eq (tgt := 131) hx hb dX11_addsLine_74 (by decide) (fun q74 => ?_) (fun q74 => ?_)
      · have hf := (br_if hf).1 q74
        exact hk131 hf hR hl
      · have hf := (br_if hf).2 q74
        refine lv_aload_n hx hb dX11_addsLine_77 rfl (lv_at hl 0 rfl) ?_
        refine x_get hx hb hown hts hK hR kX11 (z_47 b) (j := 24) (by decide) fl_X11_69 (v := .ref (eB E + 79)) rfl dX11_addsLine_78 ?_
        refine lv_iload hx hb dX11_addsLine_81 (lv_at hl 4 rfl) ?_
        refine lv_aload_n hx hb dX11_addsLine_83 rfl (lv_at hl 0 rfl) ?_
        refine x_get hx hb hown hts hK hR kX11 (z_47 b) (j := 24) (by decide) fl_X11_69 (v := .ref (eB E + 79)) rfl dX11_addsLine_84 ?_
        refine lv_iload hx hb dX11_addsLine_87 (lv_at hl 4 rfl) ?_
        refine lv_iconst (v := 1) hx hb dX11_addsLine_89 (by decide) ?_
        refine lv_isub hx hb dX11_addsLine_90 ?_
        obtain ⟨g91, hf⟩ := br_g hf
        refine x_iald hx hb hK hR (z_79 b) g91 dX11_addsLine_91 ?_
        obtain ⟨g92, hf⟩ := br_g hf
        refine x_iast hx hb hK hR (z_79 b) g92 dX11_addsLine_92 (fun H locs hR => ?_)
        obtain ⟨M92, e92⟩ : ∃ y : Mem, y = (sI M 79 (ix x4) (M.1 79 (ix (x4 - (1 : Int32))))) := ⟨_, rfl⟩
        have hf := nx_at e92 hf
        have hR : Rl E (sh_ b) (nn b) s.heap M92 H locs := by rw [e92]; exact hR
        refine lv_aload_n hx hb dX11_addsLine_93 rfl (lv_at hl 0 rfl) ?_
        refine x_get hx hb hown hts hK hR kX11 (z_47 b) (j := 25) (by decide) fl_X11_72 (v := .ref (eB E + 80)) rfl dX11_addsLine_94 ?_
        refine lv_iload hx hb dX11_addsLine_97 (lv_at hl 4 rfl) ?_
        refine lv_aload_n hx hb dX11_addsLine_99 rfl (lv_at hl 0 rfl) ?_
        refine x_get hx hb hown hts hK hR kX11 (z_47 b) (j := 25) (by decide) fl_X11_72 (v := .ref (eB E + 80)) rfl dX11_addsLine_100 ?_
        refine lv_iload hx hb dX11_addsLine_103 (lv_at hl 4 rfl) ?_
        refine lv_iconst (v := 1) hx hb dX11_addsLine_105 (by decide) ?_
        refine lv_isub hx hb dX11_addsLine_106 ?_
        obtain ⟨g107, hf⟩ := br_g hf
        refine x_iald hx hb hK hR (z_80 b) g107 dX11_addsLine_107 ?_
        obtain ⟨g108, hf⟩ := br_g hf
        refine x_iast hx hb hK hR (z_80 b) g108 dX11_addsLine_108 (fun H locs hR => ?_)
        obtain ⟨M108, e108⟩ : ∃ y : Mem, y = (sI M92 80 (ix x4) (M92.1 80 (ix (x4 - (1 : Int32))))) := ⟨_, rfl⟩
        have hf := nx_at e108 hf
        have hR : Rl E (sh_ b) (nn b) s.heap M108 H locs := by rw [e108]; exact hR
        refine lv_aload_n hx hb dX11_addsLine_109 rfl (lv_at hl 0 rfl) ?_
        refine x_get hx hb hown hts hK hR kX11 (z_47 b) (j := 26) (by decide) fl_X11_75 (v := .ref (eB E + 81)) rfl dX11_addsLine_110 ?_
        refine lv_iload hx hb dX11_addsLine_113 (lv_at hl 4 rfl) ?_
        refine lv_aload_n hx hb dX11_addsLine_115 rfl (lv_at hl 0 rfl) ?_
        refine x_get hx hb hown hts hK hR kX11 (z_47 b) (j := 26) (by decide) fl_X11_75 (v := .ref (eB E + 81)) rfl dX11_addsLine_116 ?_
        refine lv_iload hx hb dX11_addsLine_119 (lv_at hl 4 rfl) ?_
        refine lv_iconst (v := 1) hx hb dX11_addsLine_121 (by decide) ?_
        refine lv_isub hx hb dX11_addsLine_122 ?_
        obtain ⟨g123, hf⟩ := br_g hf
        refine x_iald hx hb hK hR (z_81 b) g123 dX11_addsLine_123 ?_
        obtain ⟨g124, hf⟩ := br_g hf
        refine x_iast hx hb hK hR (z_81 b) g124 dX11_addsLine_124 (fun H locs hR => ?_)
        obtain ⟨M124, e124⟩ : ∃ y : Mem, y = (sI M108 81 (ix x4) (M108.1 81 (ix (x4 - (1 : Int32))))) := ⟨_, rfl⟩
        have hf := nx_at e124 hf
        have hR : Rl E (sh_ b) (nn b) s.heap M124 H locs := by rw [e124]; exact hR
        obtain ⟨v125, e125⟩ : ∃ y : Int32, y = (x4 + (-1 : Int32)) := ⟨_, rfl⟩
        have hf := nx_at e125 hf
        refine lv_iinc (v := v125) (lv' := [(4, .int v125), (0, .ref (eB E + 47)), (1, .int x1), (2, .int x2), (3, .int x3)]) hx hb dX11_addsLine_125 hl (k := 4) rfl (by rw [e125]; rfl) (by decide) rfl (fun ls hl => ?_)
        refine lv_goto (tgt := 58) hx hb dX11_addsLine_128 (by decide) ?_
        exact ih hf hR (lv_sub hl [1, 2, 3, 4, 0] rfl)
set_option maxHeartbeats 4000000 in
set_option maxRecDepth 100000 in
theorem wX11_addsLine_131 {M1 : Mem} (X : CX E p s m args c meth cX11_addsLine 5 none RX11) : ∀ {x1 : Int32} {x2 : Int32} {x3 : Int32} {x4 : Int32} {M : Mem} {H : Heap} {locs : List Loc} {ls : Array Slot}, fX11_addsLine_131 x1 x2 x3 x4 M = some M1 → Rl E (sh_ b) (nn b) s.heap M H locs → lv_has ls 5 [(0, .ref (eB E + 47)), (1, .int x1), (2, .int x2), (3, .int x3), (4, .int x4)] → W p l e (rm 2 0 0) s m args below meth c H locs 0 0 (MQ below (qq E none (sh_ b) (nn b) M1) args s 0 0 (fr E)) (F0 m 131 ls []) := by
  obtain ⟨hx, hb, hr, hml, hown, hts, hK, hN, hO, hlk, hbs⟩ := id X
  intro x1 x2 x3 x4 M H locs ls hf hR hl
  unfold fX11_addsLine_131 at hf
  refine lv_aload_n hx hb dX11_addsLine_131 rfl (lv_at hl 0 rfl) ?_
  refine x_get hx hb hown hts hK hR kX11 (z_47 b) (j := 24) (by decide) fl_X11_69 (v := .ref (eB E + 79)) rfl dX11_addsLine_132 ?_
  refine lv_iload hx hb dX11_addsLine_135 (lv_at hl 4 rfl) ?_
  refine lv_iload_n hx hb dX11_addsLine_137 rfl (lv_at hl 1 rfl) ?_
  obtain ⟨g138, hf⟩ := br_g hf
  refine x_iast hx hb hK hR (z_79 b) g138 dX11_addsLine_138 (fun H locs hR => ?_)
  obtain ⟨M138, e138⟩ : ∃ y : Mem, y = (sI M 79 (ix x4) x1) := ⟨_, rfl⟩
  have hf := nx_at e138 hf
  have hR : Rl E (sh_ b) (nn b) s.heap M138 H locs := by rw [e138]; exact hR
  refine lv_aload_n hx hb dX11_addsLine_139 rfl (lv_at hl 0 rfl) ?_
  refine x_get hx hb hown hts hK hR kX11 (z_47 b) (j := 25) (by decide) fl_X11_72 (v := .ref (eB E + 80)) rfl dX11_addsLine_140 ?_
  refine lv_iload hx hb dX11_addsLine_143 (lv_at hl 4 rfl) ?_
  refine lv_iload_n hx hb dX11_addsLine_145 rfl (lv_at hl 2 rfl) ?_
  obtain ⟨g146, hf⟩ := br_g hf
  refine x_iast hx hb hK hR (z_80 b) g146 dX11_addsLine_146 (fun H locs hR => ?_)
  obtain ⟨M146, e146⟩ : ∃ y : Mem, y = (sI M138 80 (ix x4) x2) := ⟨_, rfl⟩
  have hf := nx_at e146 hf
  have hR : Rl E (sh_ b) (nn b) s.heap M146 H locs := by rw [e146]; exact hR
  refine lv_aload_n hx hb dX11_addsLine_147 rfl (lv_at hl 0 rfl) ?_
  refine x_get hx hb hown hts hK hR kX11 (z_47 b) (j := 26) (by decide) fl_X11_75 (v := .ref (eB E + 81)) rfl dX11_addsLine_148 ?_
  refine lv_iload hx hb dX11_addsLine_151 (lv_at hl 4 rfl) ?_
  refine lv_iload_n hx hb dX11_addsLine_153 rfl (lv_at hl 3 rfl) ?_
  obtain ⟨g154, hf⟩ := br_g hf
  refine x_iast hx hb hK hR (z_81 b) g154 dX11_addsLine_154 (fun H locs hR => ?_)
  obtain ⟨M154, e154⟩ : ∃ y : Mem, y = (sI M146 81 (ix x4) x3) := ⟨_, rfl⟩
  have hf := nx_at e154 hf
  have hR : Rl E (sh_ b) (nn b) s.heap M154 H locs := by rw [e154]; exact hR
  refine lv_aload_n hx hb dX11_addsLine_155 rfl (lv_at hl 0 rfl) ?_
  refine lv_dup hx hb dX11_addsLine_156 rfl ?_
  refine x_get hx hb hown hts hK hR kX11 (z_47 b) (j := 27) (by decide) fl_X11_288 (v := .int (M154.1 47 27)) rfl dX11_addsLine_157 ?_
  refine lv_iconst (v := 1) hx hb dX11_addsLine_160 (by decide) ?_
  refine lv_iadd hx hb dX11_addsLine_161 ?_
  refine x_puti hx hb hown hts hK hR kX11 (z_47 b) (j := 27) (by decide) fl_X11_288 rfl rfl rfl rfl dX11_addsLine_162 (fun H locs hR => ?_)
  obtain ⟨M162, e162⟩ : ∃ y : Mem, y = (sI M154 47 27 ((M154.1 47 27) + (1 : Int32))) := ⟨_, rfl⟩
  have hf := nx_at e162 hf
  have hR : Rl E (sh_ b) (nn b) s.heap M162 H locs := by rw [e162]; exact hR
  cases hf
  exact x_vret hx hb hr hlk hR dX11_addsLine_165
set_option maxHeartbeats 4000000 in
set_option maxRecDepth 100000 in
theorem wX11_addsLine_52 {M1 : Mem} (X : CX E p s m args c meth cX11_addsLine 5 none RX11) : ∀ {x1 : Int32} {x2 : Int32} {x3 : Int32} {M : Mem} {H : Heap} {locs : List Loc} {ls : Array Slot}, fX11_addsLine_52 x1 x2 x3 M = some M1 → Rl E (sh_ b) (nn b) s.heap M H locs → lv_has ls 5 [(0, .ref (eB E + 47)), (1, .int x1), (2, .int x2), (3, .int x3)] → W p l e (rm 2 0 0) s m args below meth c H locs 0 0 (MQ below (qq E none (sh_ b) (nn b) M1) args s 0 0 (fr E)) (F0 m 52 ls []) := by
  obtain ⟨hx, hb, hr, hml, hown, hts, hK, hN, hO, hlk, hbs⟩ := id X
  intro x1 x2 x3 M H locs ls hf hR hl
  unfold fX11_addsLine_52 at hf
  refine lv_aload_n hx hb dX11_addsLine_52 rfl (lv_at hl 0 rfl) ?_
  refine x_get hx hb hown hts hK hR kX11 (z_47 b) (j := 27) (by decide) fl_X11_288 (v := .int (M.1 47 27)) rfl dX11_addsLine_53 ?_
  refine lv_topi (fun v56 e56 => ?_)
  have hf := nx_at e56 hf
  refine lv_istore (lv' := [(4, .int v56), (0, .ref (eB E + 47)), (1, .int x1), (2, .int x2), (3, .int x3)]) hx hb dX11_addsLine_56 hl (by decide) rfl (fun ls hl => ?_)
  exact wX11_addsLine_58 X (fun hf hR hl => wX11_addsLine_131 X hf hR hl) FU hf hR (lv_sub hl [1, 2, 3, 4, 0] rfl)
set_option maxHeartbeats 4000000 in
set_option maxRecDepth 100000 in
theorem wX11_addsLine_0 {M1 : Mem} (X : CX E p s m args c meth cX11_addsLine 5 none RX11) : ∀ {x1 : Int32} {x2 : Int32} {x3 : Int32} {M : Mem} {H : Heap} {locs : List Loc} {ls : Array Slot}, fX11_addsLine x1 x2 x3 M = some M1 → Rl E (sh_ b) (nn b) s.heap M H locs → lv_has ls 5 [(0, .ref (eB E + 47)), (1, .int x1), (2, .int x2), (3, .int x3)] → W p l e (rm 2 0 0) s m args below meth c H locs 0 0 (MQ below (qq E none (sh_ b) (nn b) M1) args s 0 0 (fr E)) (F0 m 0 ls []) := by
  obtain ⟨hx, hb, hr, hml, hown, hts, hK, hN, hO, hlk, hbs⟩ := id X
  intro x1 x2 x3 M H locs ls hf hR hl
  unfold fX11_addsLine at hf
  refine lv_iconst (v := 0) hx hb dX11_addsLine_0 (by decide) ?_
  refine lv_istore (lv' := [(4, .int (0 : Int32)), (0, .ref (eB E + 47)), (1, .int x1), (2, .int x2), (3, .int x3)]) hx hb dX11_addsLine_1 hl (by decide) rfl (fun ls hl => ?_)
  exact wX11_addsLine_3 X (fun hf hR hl => wX11_addsLine_45 X hf hR hl) (fun hf hR hl => wX11_addsLine_52 X hf hR hl) FU hf hR (lv_sub hl [1, 2, 3, 4, 0] rfl)
theorem ctX11_addsLine {l : Launch} {E : Ge} {b : Bool} {M : Mem} {x1 : Int32} {x2 : Int32} {x3 : Int32} {M1 : Mem} (h : fX11_addsLine x1 x2 x3 M = some M1) : CT l E yX11_addsLine cX11_addsLine 5 none 2 0 0 [.ref (eB E + 47), .int x1, .int x2, .int x3] none (sh_ b) (nn b) M (sh_ b) (nn b) M1 := by
  refine met_of (by decide) (Nat.le_of_ble_eq_true rfl) ?_
  intro p e s m args below meth c X _ hR ls hl
  exact wX11_addsLine_0 X h hR hl
def fX11_gcd_28 (M : Mem) (k53 : Int64 → Option Int64) : Nat → Int64 → Int64 → Option Int64
  | 0, _, _ => none
  | n + 1, y4, y6 => (if (lg_cmp y6 (0 : Int64)) ≤ 0 then k53 y4 else (if ¬ y6 = 0 then nx (lrm y4 y6) (fun v40 => fX11_gcd_28 M k53 n y6 v40) else none))
def fX11_gcd_53 (M : Mem) (y4 : Int64) : Option Int64 := some y4
def fX11_gcd_26 (M : Mem) (y4 : Int64) (t0 : Int64) : Option Int64 := fX11_gcd_28 M (fX11_gcd_53 M) FU y4 t0
def fX11_gcd_12 (M : Mem) (y2 : Int64) (t0 : Int64) : Option Int64 := (if 0 ≤ (lg_cmp y2 (0 : Int64)) then fX11_gcd_26 M t0 y2 else fX11_gcd_26 M t0 ((-y2)))
def fX11_gcd (M : Mem) (y0 : Int64) (y2 : Int64) : Option Int64 := (if 0 ≤ (lg_cmp y0 (0 : Int64)) then fX11_gcd_12 M y2 y0 else fX11_gcd_12 M y2 ((-y0)))
set_option maxHeartbeats 4000000 in
set_option maxRecDepth 100000 in
theorem wX11_gcd_28 {r : Int64} {M : Mem} {k53 : Int64 → Option Int64} (X : CX E p s m args c meth cX11_gcd 10 (some .long) RX11) (hk53 : ∀ {y4 : Int64} {H : Heap} {locs : List Loc} {ls : Array Slot}, k53 y4 = some r → Rl E (sh_ b) (nn b) s.heap M H locs → lv_has ls 10 [(4, .long y4)] → W p l e (rm 1 0 0) s m args below meth c H locs 0 0 (MQ below (qq E (some (.long r)) (sh_ b) (nn b) M) args s 0 0 (fr E)) (F0 m 53 ls [])) : ∀ (n : Nat) {y4 : Int64} {y6 : Int64} {H : Heap} {locs : List Loc} {ls : Array Slot}, fX11_gcd_28 M k53 n y4 y6 = some r → Rl E (sh_ b) (nn b) s.heap M H locs → lv_has ls 10 [(4, .long y4), (6, .long y6)] → W p l e (rm 1 0 0) s m args below meth c H locs 0 0 (MQ below (qq E (some (.long r)) (sh_ b) (nn b) M) args s 0 0 (fr E)) (F0 m 28 ls []) := by
  obtain ⟨hx, hb, hr, hml, hown, hts, hK, hN, hO, hlk, hbs⟩ := id X
  intro n
  induction n with
  | zero =>
    intro y4 y6 H locs ls hf hR hl
    exact absurd (show none = some _ from hf) (fun h => by cases h)
  | succ n ih =>
    intro y4 y6 H locs ls hf hR hl
    rw [fX11_gcd_28] at hf
    refine lv_lload hx hb dX11_gcd_28 (lv_at hl 1 rfl) ?_
    refine lv_lconst (v := 0) hx hb dX11_gcd_30 (by decide) ?_
    refine W.lcmp hx hb dX11_gcd_31 ?_
    refine lv_if_le (tgt := 53) hx hb dX11_gcd_32 (by decide) (fun q32 => ?_) (fun q32 => ?_)
    · have hf := (br_if hf).1 q32
      exact hk53 hf hR (lv_sub hl [0] rfl)
    · have hf := (br_if hf).2 q32
      refine lv_lload hx hb dX11_gcd_35 (lv_at hl 0 rfl) ?_
      refine lv_lload hx hb dX11_gcd_37 (lv_at hl 1 rfl) ?_
      obtain ⟨g39, hf⟩ := br_g hf
      refine lv_lrem hx hb dX11_gcd_39 g39 ?_
      refine W.eq (g2 := F0 m 40 ls [.long (lrm y4 y6)]) rfl ?_
      refine lv_topl (fun v40 e40 => ?_)
      have hf := nx_at e40 hf
      refine lv_lstore (lv' := [(8, .long v40), (4, .long y4), (6, .long y6)]) hx hb dX11_gcd_40 hl (by decide) rfl (fun ls hl => ?_)
      refine lv_lload hx hb dX11_gcd_42 (lv_at hl 2 rfl) ?_
      refine lv_lstore (lv' := [(4, .long y6), (8, .long v40), (6, .long y6)]) hx hb dX11_gcd_44 hl (by decide) rfl (fun ls hl => ?_)
      refine lv_lload hx hb dX11_gcd_46 (lv_at hl 1 rfl) ?_
      refine lv_lstore (lv' := [(6, .long v40), (4, .long y6), (8, .long v40)]) hx hb dX11_gcd_48 hl (by decide) rfl (fun ls hl => ?_)
      refine lv_goto (tgt := 28) hx hb dX11_gcd_50 (by decide) ?_
      exact ih hf hR (lv_sub hl [1, 0] rfl)
set_option maxHeartbeats 4000000 in
set_option maxRecDepth 100000 in
theorem wX11_gcd_53 {r : Int64} {M : Mem} (X : CX E p s m args c meth cX11_gcd 10 (some .long) RX11) : ∀ {y4 : Int64} {H : Heap} {locs : List Loc} {ls : Array Slot}, fX11_gcd_53 M y4 = some r → Rl E (sh_ b) (nn b) s.heap M H locs → lv_has ls 10 [(4, .long y4)] → W p l e (rm 1 0 0) s m args below meth c H locs 0 0 (MQ below (qq E (some (.long r)) (sh_ b) (nn b) M) args s 0 0 (fr E)) (F0 m 53 ls []) := by
  obtain ⟨hx, hb, hr, hml, hown, hts, hK, hN, hO, hlk, hbs⟩ := id X
  intro y4 H locs ls hf hR hl
  unfold fX11_gcd_53 at hf
  refine lv_lload hx hb dX11_gcd_53 (lv_at hl 0 rfl) ?_
  cases hf
  exact x_lret hx hb hr hlk hR dX11_gcd_55
set_option maxHeartbeats 4000000 in
set_option maxRecDepth 100000 in
theorem wX11_gcd_26 {r : Int64} {M : Mem} (X : CX E p s m args c meth cX11_gcd 10 (some .long) RX11) : ∀ {y4 : Int64} {t0 : Int64} {H : Heap} {locs : List Loc} {ls : Array Slot}, fX11_gcd_26 M y4 t0 = some r → Rl E (sh_ b) (nn b) s.heap M H locs → lv_has ls 10 [(4, .long y4)] → W p l e (rm 1 0 0) s m args below meth c H locs 0 0 (MQ below (qq E (some (.long r)) (sh_ b) (nn b) M) args s 0 0 (fr E)) (F0 m 26 ls [.long t0]) := by
  obtain ⟨hx, hb, hr, hml, hown, hts, hK, hN, hO, hlk, hbs⟩ := id X
  intro y4 t0 H locs ls hf hR hl
  unfold fX11_gcd_26 at hf
  refine lv_lstore (lv' := [(6, .long t0), (4, .long y4)]) hx hb dX11_gcd_26 hl (by decide) rfl (fun ls hl => ?_)
  exact wX11_gcd_28 X (fun hf hR hl => wX11_gcd_53 X hf hR hl) FU hf hR (lv_sub hl [1, 0] rfl)
set_option maxHeartbeats 4000000 in
set_option maxRecDepth 100000 in
theorem wX11_gcd_12 {r : Int64} {M : Mem} (X : CX E p s m args c meth cX11_gcd 10 (some .long) RX11) : ∀ {y2 : Int64} {t0 : Int64} {H : Heap} {locs : List Loc} {ls : Array Slot}, fX11_gcd_12 M y2 t0 = some r → Rl E (sh_ b) (nn b) s.heap M H locs → lv_has ls 10 [(2, .long y2)] → W p l e (rm 1 0 0) s m args below meth c H locs 0 0 (MQ below (qq E (some (.long r)) (sh_ b) (nn b) M) args s 0 0 (fr E)) (F0 m 12 ls [.long t0]) := by
  obtain ⟨hx, hb, hr, hml, hown, hts, hK, hN, hO, hlk, hbs⟩ := id X
  intro y2 t0 H locs ls hf hR hl
  unfold fX11_gcd_12 at hf
  refine lv_lstore (lv' := [(4, .long t0), (2, .long y2)]) hx hb dX11_gcd_12 hl (by decide) rfl (fun ls hl => ?_)
  refine lv_lload_n hx hb dX11_gcd_14 rfl (lv_at hl 1 rfl) ?_
  refine lv_lconst (v := 0) hx hb dX11_gcd_15 (by decide) ?_
  refine W.lcmp hx hb dX11_gcd_16 ?_
  refine lv_if_ge (tgt := 25) hx hb dX11_gcd_17 (by decide) (fun q17 => ?_) (fun q17 => ?_)
  · have hf := (br_if hf).1 q17
    refine lv_lload_n hx hb dX11_gcd_25 rfl (lv_at hl 1 rfl) ?_
    exact wX11_gcd_26 X hf hR (lv_sub hl [0] rfl)
  · have hf := (br_if hf).2 q17
    refine lv_lload_n hx hb dX11_gcd_20 rfl (lv_at hl 1 rfl) ?_
    refine lv_lneg hx hb dX11_gcd_21 ?_
    refine lv_goto (tgt := 26) hx hb dX11_gcd_22 (by decide) ?_
    exact wX11_gcd_26 X hf hR (lv_sub hl [0] rfl)
set_option maxHeartbeats 4000000 in
set_option maxRecDepth 100000 in
theorem wX11_gcd_0 {r : Int64} {M : Mem} (X : CX E p s m args c meth cX11_gcd 10 (some .long) RX11) : ∀ {y0 : Int64} {y2 : Int64} {H : Heap} {locs : List Loc} {ls : Array Slot}, fX11_gcd M y0 y2 = some r → Rl E (sh_ b) (nn b) s.heap M H locs → lv_has ls 10 [(0, .long y0), (2, .long y2)] → W p l e (rm 1 0 0) s m args below meth c H locs 0 0 (MQ below (qq E (some (.long r)) (sh_ b) (nn b) M) args s 0 0 (fr E)) (F0 m 0 ls []) := by
  obtain ⟨hx, hb, hr, hml, hown, hts, hK, hN, hO, hlk, hbs⟩ := id X
  intro y0 y2 H locs ls hf hR hl
  unfold fX11_gcd at hf
  refine lv_lload_n hx hb dX11_gcd_0 rfl (lv_at hl 0 rfl) ?_
  refine lv_lconst (v := 0) hx hb dX11_gcd_1 (by decide) ?_
  refine W.lcmp hx hb dX11_gcd_2 ?_
  refine lv_if_ge (tgt := 11) hx hb dX11_gcd_3 (by decide) (fun q3 => ?_) (fun q3 => ?_)
  · have hf := (br_if hf).1 q3
    refine lv_lload_n hx hb dX11_gcd_11 rfl (lv_at hl 0 rfl) ?_
    exact wX11_gcd_12 X hf hR (lv_sub hl [1] rfl)
  · have hf := (br_if hf).2 q3
    refine lv_lload_n hx hb dX11_gcd_6 rfl (lv_at hl 0 rfl) ?_
    refine lv_lneg hx hb dX11_gcd_7 ?_
    refine lv_goto (tgt := 12) hx hb dX11_gcd_8 (by decide) ?_
    exact wX11_gcd_12 X hf hR (lv_sub hl [1] rfl)
theorem ctX11_gcd {l : Launch} {E : Ge} {b : Bool} {M : Mem} {y0 : Int64} {y2 : Int64} {r : Int64} (h : fX11_gcd M y0 y2 = some r) : CT l E yX11_gcd cX11_gcd 10 (some .long) 1 0 0 [.long y0, .long y2] (some (.long r)) (sh_ b) (nn b) M (sh_ b) (nn b) M := by
  refine met_of (by decide) (Nat.le_of_ble_eq_true rfl) ?_
  intro p e s m args below meth c X _ hR ls hl
  exact wX11_gcd_0 X h hR hl
def fX11_voters (M : Mem) : Option Int32 := some (M.1 73 (ix (0 : Int32)))
set_option maxHeartbeats 4000000 in
set_option maxRecDepth 100000 in
theorem wX11_voters_0 {r : Int32} {M : Mem} (X : CX E p s m args c meth cX11_voters 1 (some .int) RX11) : ∀ {H : Heap} {locs : List Loc} {ls : Array Slot}, fX11_voters M = some r → Rl E (sh_ b) (nn b) s.heap M H locs → lv_has ls 1 [(0, .ref (eB E + 47))] → W p l e (rm 1 0 0) s m args below meth c H locs 0 0 (MQ below (qq E (some (.int r)) (sh_ b) (nn b) M) args s 0 0 (fr E)) (F0 m 0 ls []) := by
  obtain ⟨hx, hb, hr, hml, hown, hts, hK, hN, hO, hlk, hbs⟩ := id X
  intro H locs ls hf hR hl
  unfold fX11_voters at hf
  refine lv_aload_n hx hb dX11_voters_0 rfl (lv_at hl 0 rfl) ?_
  refine x_get hx hb hown hts hK hR kX11 (z_47 b) (j := 14) (by decide) fl_X11_39 (v := .ref (eB E + 73)) rfl dX11_voters_1 ?_
  refine lv_iconst (v := 0) hx hb dX11_voters_4 (by decide) ?_
  refine x_iald hx hb hK hR (z_73 b) (by decide) dX11_voters_5 ?_
  cases hf
  exact x_iret hx hb hr hlk hR dX11_voters_6
theorem ctX11_voters {l : Launch} {E : Ge} {b : Bool} {M : Mem} {r : Int32} (h : fX11_voters M = some r) : CT l E yX11_voters cX11_voters 1 (some .int) 1 0 0 [.ref (eB E + 47)] (some (.int r)) (sh_ b) (nn b) M (sh_ b) (nn b) M := by
  refine met_of (by decide) (Nat.le_of_ble_eq_true rfl) ?_
  intro p e s m args below meth c X _ hR ls hl
  exact wX11_voters_0 X h hR hl
def fX11_total_4 (M : Mem) (k29 : Int32 → Option Int32) : Nat → Int32 → Int32 → Option Int32
  | 0, _, _ => none
  | n + 1, x1, x2 => (fX11_voters M).bind (fun q6 => (if q6 ≤ x2 then k29 x1 else (if inb x2 15 = true then nx (x1 + (M.1 56 (ix x2))) (fun v22 => nx (x2 + (1 : Int32)) (fun v23 => fX11_total_4 M k29 n v22 v23)) else none)))
def fX11_total_29 (M : Mem) (x1 : Int32) : Option Int32 := some x1
def fX11_total (M : Mem) : Option Int32 := fX11_total_4 M (fX11_total_29 M) FU (0 : Int32) (0 : Int32)
set_option maxHeartbeats 4000000 in
set_option maxRecDepth 100000 in
theorem wX11_total_4 {r : Int32} {M : Mem} {k29 : Int32 → Option Int32} (X : CX E p s m args c meth cX11_total 3 (some .int) RX11) (hk29 : ∀ {x1 : Int32} {H : Heap} {locs : List Loc} {ls : Array Slot}, k29 x1 = some r → Rl E (sh_ b) (nn b) s.heap M H locs → lv_has ls 3 [(1, .int x1)] → W p l e (rm 2 0 0) s m args below meth c H locs 0 0 (MQ below (qq E (some (.int r)) (sh_ b) (nn b) M) args s 0 0 (fr E)) (F0 m 29 ls [])) : ∀ (n : Nat) {x1 : Int32} {x2 : Int32} {H : Heap} {locs : List Loc} {ls : Array Slot}, fX11_total_4 M k29 n x1 x2 = some r → Rl E (sh_ b) (nn b) s.heap M H locs → lv_has ls 3 [(0, .ref (eB E + 47)), (1, .int x1), (2, .int x2)] → W p l e (rm 2 0 0) s m args below meth c H locs 0 0 (MQ below (qq E (some (.int r)) (sh_ b) (nn b) M) args s 0 0 (fr E)) (F0 m 4 ls []) := by
  obtain ⟨hx, hb, hr, hml, hown, hts, hK, hN, hO, hlk, hbs⟩ := id X
  intro n
  induction n with
  | zero =>
    intro x1 x2 H locs ls hf hR hl
    exact absurd (show none = some _ from hf) (fun h => by cases h)
  | succ n ih =>
    intro x1 x2 H locs ls hf hR hl
    rw [fX11_total_4] at hf
    refine lv_iload_n hx hb dX11_total_4 rfl (lv_at hl 2 rfl) ?_
    refine lv_aload_n hx hb dX11_total_5 rfl (lv_at hl 0 rfl) ?_
    obtain ⟨q6, c6, hf⟩ := br_b hf
    refine x_callV (k := 47) (As := []) (rest := [.int x2]) (st1 := [.int q6, .int x2]) X hR (ctX11_voters c6) ml_X11_237 im_X11_voters se_X11_voters in_X11 co_X11_voters yo_X11_voters rfl kX11 (z_47 b) (rm_ok (by decide) (by decide)) rfl hl.1 rfl rfl (Nat.le_of_ble_eq_true rfl) dX11_total_6 ⟨Nat.zero_le _, Nat.zero_le _⟩ (fun H locs hR => ?_)
    refine lv_icmp_ge (tgt := 29) hx hb dX11_total_9 (by decide) (fun q9 => ?_) (fun q9 => ?_)
    · have hf := (br_if hf).1 q9
      exact hk29 hf hR (lv_sub hl [1] rfl)
    · have hf := (br_if hf).2 q9
      refine lv_iload_n hx hb dX11_total_12 rfl (lv_at hl 1 rfl) ?_
      refine lv_aload_n hx hb dX11_total_13 rfl (lv_at hl 0 rfl) ?_
      refine x_get hx hb hown hts hK hR kX11 (z_47 b) (j := 8) (by decide) fl_X11_21 (v := .ref (eB E + 55)) rfl dX11_total_14 ?_
      refine lv_iconst (v := 0) hx hb dX11_total_17 (by decide) ?_
      refine x_aald5 hx hb hK hR (z_55 b) (by decide) (r := 56) rfl dX11_total_18 ?_
      refine lv_iload_n hx hb dX11_total_19 rfl (lv_at hl 2 rfl) ?_
      obtain ⟨g20, hf⟩ := br_g hf
      refine x_iald hx hb hK hR (z_56 b) g20 dX11_total_20 ?_
      refine lv_iadd hx hb dX11_total_21 ?_
      refine lv_topi (fun v22 e22 => ?_)
      have hf := nx_at e22 hf
      refine lv_istore_n (lv' := [(1, .int v22), (0, .ref (eB E + 47)), (2, .int x2)]) hx hb dX11_total_22 rfl hl (by decide) rfl (fun ls hl => ?_)
      obtain ⟨v23, e23⟩ : ∃ y : Int32, y = (x2 + (1 : Int32)) := ⟨_, rfl⟩
      have hf := nx_at e23 hf
      refine lv_iinc (v := v23) (lv' := [(2, .int v23), (1, .int v22), (0, .ref (eB E + 47))]) hx hb dX11_total_23 hl (k := 2) rfl (by rw [e23]; rfl) (by decide) rfl (fun ls hl => ?_)
      refine lv_goto (tgt := 4) hx hb dX11_total_26 (by decide) ?_
      exact ih hf hR (lv_sub hl [2, 1, 0] rfl)
set_option maxHeartbeats 4000000 in
set_option maxRecDepth 100000 in
theorem wX11_total_29 {r : Int32} {M : Mem} (X : CX E p s m args c meth cX11_total 3 (some .int) RX11) : ∀ {x1 : Int32} {H : Heap} {locs : List Loc} {ls : Array Slot}, fX11_total_29 M x1 = some r → Rl E (sh_ b) (nn b) s.heap M H locs → lv_has ls 3 [(1, .int x1)] → W p l e (rm 2 0 0) s m args below meth c H locs 0 0 (MQ below (qq E (some (.int r)) (sh_ b) (nn b) M) args s 0 0 (fr E)) (F0 m 29 ls []) := by
  obtain ⟨hx, hb, hr, hml, hown, hts, hK, hN, hO, hlk, hbs⟩ := id X
  intro x1 H locs ls hf hR hl
  unfold fX11_total_29 at hf
  refine lv_iload_n hx hb dX11_total_29 rfl (lv_at hl 0 rfl) ?_
  cases hf
  exact x_iret hx hb hr hlk hR dX11_total_30
set_option maxHeartbeats 4000000 in
set_option maxRecDepth 100000 in
theorem wX11_total_0 {r : Int32} {M : Mem} (X : CX E p s m args c meth cX11_total 3 (some .int) RX11) : ∀ {H : Heap} {locs : List Loc} {ls : Array Slot}, fX11_total M = some r → Rl E (sh_ b) (nn b) s.heap M H locs → lv_has ls 3 [(0, .ref (eB E + 47))] → W p l e (rm 2 0 0) s m args below meth c H locs 0 0 (MQ below (qq E (some (.int r)) (sh_ b) (nn b) M) args s 0 0 (fr E)) (F0 m 0 ls []) := by
  obtain ⟨hx, hb, hr, hml, hown, hts, hK, hN, hO, hlk, hbs⟩ := id X
  intro H locs ls hf hR hl
  unfold fX11_total at hf
  refine lv_iconst (v := 0) hx hb dX11_total_0 (by decide) ?_
  refine lv_istore_n (lv' := [(1, .int (0 : Int32)), (0, .ref (eB E + 47))]) hx hb dX11_total_1 rfl hl (by decide) rfl (fun ls hl => ?_)
  refine lv_iconst (v := 0) hx hb dX11_total_2 (by decide) ?_
  refine lv_istore_n (lv' := [(2, .int (0 : Int32)), (1, .int (0 : Int32)), (0, .ref (eB E + 47))]) hx hb dX11_total_3 rfl hl (by decide) rfl (fun ls hl => ?_)
  exact wX11_total_4 X (fun hf hR hl => wX11_total_29 X hf hR hl) FU hf hR (lv_sub hl [2, 1, 0] rfl)
theorem ctX11_total {l : Launch} {E : Ge} {b : Bool} {M : Mem} {r : Int32} (h : fX11_total M = some r) : CT l E yX11_total cX11_total 3 (some .int) 2 0 0 [.ref (eB E + 47)] (some (.int r)) (sh_ b) (nn b) M (sh_ b) (nn b) M := by
  refine met_of (by decide) (Nat.le_of_ble_eq_true rfl) ?_
  intro p e s m args below meth c X _ hR ls hl
  exact wX11_total_0 X h hR hl
def fX11_isMiddle_229 (M : Mem) (k84 : Int64 → Int64 → Int64 → Int32 → Int32 → Int64 → Int64 → Int32 → Int32 → Int32 → Int32 → Int32 → Option Int32) (k235 : Int64 → Int64 → Int64 → Int32 → Int32 → Int32 → Int32 → Int32 → Int32 → Option Int32) (y1 : Int64) (y3 : Int64) (y5 : Int64) (x7 : Int32) (x8 : Int32) (y9 : Int64) (y11 : Int64) (x13 : Int32) (x14 : Int32) (x15 : Int32) (x16 : Int32) (x17 : Int32) : Option Int32 := nx (x17 + (1 : Int32)) (fun v229 => k84 y1 y3 y5 x7 x8 y9 y11 x13 x14 x15 x16 v229)
def fX11_isMiddle_84 (M : Mem) (k235 : Int64 → Int64 → Int64 → Int32 → Int32 → Int32 → Int32 → Int32 → Int32 → Option Int32) : Nat → Int64 → Int64 → Int64 → Int32 → Int32 → Int64 → Int64 → Int32 → Int32 → Int32 → Int32 → Int32 → Option Int32
  | 0, _, _, _, _, _, _, _, _, _, _, _, _ => none
  | n + 1, y1, y3, y5, x7, x8, y9, y11, x13, x14, x15, x16, x17 => (fX11_voters M).bind (fun q87 => (if q87 ≤ x17 then k235 y1 y3 y5 x7 x8 x13 x14 x15 x16 else (if inb x17 15 = true then nx ((y5 * (M.1 50 (ix x17)).toInt64) - y1) (fun v108 => (if inb x17 15 = true then nx ((y5 * (M.1 53 (ix x17)).toInt64) - y3) (fun v125 => nx ((y9 * v125) - (y11 * v108)) (fun v138 => nx ((y9 * v108) + (y11 * v125)) (fun v151 => (if inb x17 15 = true then nx (M.1 56 (ix x17)) (fun v162 => (if (lg_cmp v138 (0 : Int64)) ≤ 0 then (if 0 ≤ (lg_cmp v138 (0 : Int64)) then (if (lg_cmp v151 (0 : Int64)) ≤ 0 then (if 0 ≤ (lg_cmp v151 (0 : Int64)) then fX11_isMiddle_229 M (fX11_isMiddle_84 M k235 n) k235 y1 y3 y5 x7 x8 y9 y11 x13 x14 x15 x16 x17 else nx (x16 + v162) (fun v227 => fX11_isMiddle_229 M (fX11_isMiddle_84 M k235 n) k235 y1 y3 y5 x7 x8 y9 y11 x13 x14 x15 v227 x17)) else nx (x15 + v162) (fun v210 => fX11_isMiddle_229 M (fX11_isMiddle_84 M k235 n) k235 y1 y3 y5 x7 x8 y9 y11 x13 x14 v210 x16 x17)) else nx (x14 + v162) (fun v193 => fX11_isMiddle_229 M (fX11_isMiddle_84 M k235 n) k235 y1 y3 y5 x7 x8 y9 y11 x13 v193 x15 x16 x17)) else nx (x13 + v162) (fun v176 => fX11_isMiddle_229 M (fX11_isMiddle_84 M k235 n) k235 y1 y3 y5 x7 x8 y9 y11 v176 x14 x15 x16 x17))) else none)))) else none)) else none)))
def fX11_isMiddle_259 (M : Mem) (k9 : Int64 → Int64 → Int64 → Int32 → Int32 → Option Int32) (k257 : Option Int32) (k265 : Option Int32) (y1 : Int64) (y3 : Int64) (y5 : Int64) (x7 : Int32) (x8 : Int32) : Option Int32 := nx (x8 + (1 : Int32)) (fun v259 => k9 y1 y3 y5 x7 v259)
def fX11_isMiddle_235 (M : Mem) (k9 : Int64 → Int64 → Int64 → Int32 → Int32 → Option Int32) (k257 : Option Int32) (k265 : Option Int32) (y1 : Int64) (y3 : Int64) (y5 : Int64) (x7 : Int32) (x8 : Int32) (x13 : Int32) (x14 : Int32) (x15 : Int32) (x16 : Int32) : Option Int32 := (if ((2 : Int32) * ((imax x13 x14) + (imax x15 x16))) ≤ x7 then fX11_isMiddle_259 M k9 k257 k265 y1 y3 y5 x7 x8 else k257)
def fX11_isMiddle_69 (M : Mem) (k9 : Int64 → Int64 → Int64 → Int32 → Int32 → Option Int32) (k257 : Option Int32) (k265 : Option Int32) (y1 : Int64) (y3 : Int64) (y5 : Int64) (x7 : Int32) (x8 : Int32) (y9 : Int64) (y11 : Int64) : Option Int32 := fX11_isMiddle_84 M (fX11_isMiddle_235 M k9 k257 k265) FU y1 y3 y5 x7 x8 y9 y11 (0 : Int32) (0 : Int32) (0 : Int32) (0 : Int32) (0 : Int32)
def fX11_isMiddle_9 (M : Mem) (k257 : Option Int32) (k265 : Option Int32) : Nat → Int64 → Int64 → Int64 → Int32 → Int32 → Option Int32
  | 0, _, _, _, _, _ => none
  | n + 1, y1, y3, y5, x7, x8 => (fX11_voters M).bind (fun q12 => (if q12 ≤ x8 then k265 else (if inb x8 15 = true then nx ((y5 * (M.1 50 (ix x8)).toInt64) - y1) (fun v33 => (if inb x8 15 = true then nx ((y5 * (M.1 53 (ix x8)).toInt64) - y3) (fun v50 => (if (lg_cmp v33 (0 : Int64)) = 0 then (if (lg_cmp v50 (0 : Int64)) = 0 then fX11_isMiddle_259 M (fX11_isMiddle_9 M k257 k265 n) k257 k265 y1 y3 y5 x7 x8 else fX11_isMiddle_69 M (fX11_isMiddle_9 M k257 k265 n) k257 k265 y1 y3 y5 x7 x8 v33 v50) else fX11_isMiddle_69 M (fX11_isMiddle_9 M k257 k265 n) k257 k265 y1 y3 y5 x7 x8 v33 v50)) else none)) else none)))
def fX11_isMiddle_257 (M : Mem) : Option Int32 := some (0 : Int32)
def fX11_isMiddle_265 (M : Mem) : Option Int32 := some (1 : Int32)
def fX11_isMiddle (M : Mem) (y1 : Int64) (y3 : Int64) (y5 : Int64) : Option Int32 := (fX11_total M).bind (fun q1 => fX11_isMiddle_9 M (fX11_isMiddle_257 M) (fX11_isMiddle_265 M) FU y1 y3 y5 q1 (0 : Int32))
set_option maxHeartbeats 4000000 in
set_option maxRecDepth 100000 in
theorem wX11_isMiddle_229 {r : Int32} {M : Mem} {k84 : Int64 → Int64 → Int64 → Int32 → Int32 → Int64 → Int64 → Int32 → Int32 → Int32 → Int32 → Int32 → Option Int32} {k235 : Int64 → Int64 → Int64 → Int32 → Int32 → Int32 → Int32 → Int32 → Int32 → Option Int32} (X : CX E p s m args c meth cX11_isMiddle 27 (some .boolean) RX11) (hk84 : ∀ {y1 : Int64} {y3 : Int64} {y5 : Int64} {x7 : Int32} {x8 : Int32} {y9 : Int64} {y11 : Int64} {x13 : Int32} {x14 : Int32} {x15 : Int32} {x16 : Int32} {x17 : Int32} {H : Heap} {locs : List Loc} {ls : Array Slot}, k84 y1 y3 y5 x7 x8 y9 y11 x13 x14 x15 x16 x17 = some r → Rl E (sh_ b) (nn b) s.heap M H locs → lv_has ls 27 [(0, .ref (eB E + 47)), (1, .long y1), (3, .long y3), (5, .long y5), (7, .int x7), (8, .int x8), (9, .long y9), (11, .long y11), (13, .int x13), (14, .int x14), (15, .int x15), (16, .int x16), (17, .int x17)] → W p l e (rm 3 0 0) s m args below meth c H locs 0 0 (MQ below (qq E (some (.int r)) (sh_ b) (nn b) M) args s 0 0 (fr E)) (F0 m 84 ls [])) (hk235 : ∀ {y1 : Int64} {y3 : Int64} {y5 : Int64} {x7 : Int32} {x8 : Int32} {x13 : Int32} {x14 : Int32} {x15 : Int32} {x16 : Int32} {H : Heap} {locs : List Loc} {ls : Array Slot}, k235 y1 y3 y5 x7 x8 x13 x14 x15 x16 = some r → Rl E (sh_ b) (nn b) s.heap M H locs → lv_has ls 27 [(0, .ref (eB E + 47)), (1, .long y1), (3, .long y3), (5, .long y5), (7, .int x7), (8, .int x8), (13, .int x13), (14, .int x14), (15, .int x15), (16, .int x16)] → W p l e (rm 3 0 0) s m args below meth c H locs 0 0 (MQ below (qq E (some (.int r)) (sh_ b) (nn b) M) args s 0 0 (fr E)) (F0 m 235 ls [])) : ∀ {y1 : Int64} {y3 : Int64} {y5 : Int64} {x7 : Int32} {x8 : Int32} {y9 : Int64} {y11 : Int64} {x13 : Int32} {x14 : Int32} {x15 : Int32} {x16 : Int32} {x17 : Int32} {H : Heap} {locs : List Loc} {ls : Array Slot}, fX11_isMiddle_229 M k84 k235 y1 y3 y5 x7 x8 y9 y11 x13 x14 x15 x16 x17 = some r → Rl E (sh_ b) (nn b) s.heap M H locs → lv_has ls 27 [(0, .ref (eB E + 47)), (1, .long y1), (3, .long y3), (5, .long y5), (7, .int x7), (8, .int x8), (9, .long y9), (11, .long y11), (13, .int x13), (14, .int x14), (15, .int x15), (16, .int x16), (17, .int x17)] → W p l e (rm 3 0 0) s m args below meth c H locs 0 0 (MQ below (qq E (some (.int r)) (sh_ b) (nn b) M) args s 0 0 (fr E)) (F0 m 229 ls []) := by
  obtain ⟨hx, hb, hr, hml, hown, hts, hK, hN, hO, hlk, hbs⟩ := id X
  intro y1 y3 y5 x7 x8 y9 y11 x13 x14 x15 x16 x17 H locs ls hf hR hl
  unfold fX11_isMiddle_229 at hf
  obtain ⟨v229, e229⟩ : ∃ y : Int32, y = (x17 + (1 : Int32)) := ⟨_, rfl⟩
  have hf := nx_at e229 hf
  refine lv_iinc (v := v229) (lv' := [(17, .int v229), (0, .ref (eB E + 47)), (1, .long y1), (3, .long y3), (5, .long y5), (7, .int x7), (8, .int x8), (9, .long y9), (11, .long y11), (13, .int x13), (14, .int x14), (15, .int x15), (16, .int x16)]) hx hb dX11_isMiddle_229 hl (k := 12) rfl (by rw [e229]; rfl) (by decide) rfl (fun ls hl => ?_)
  refine lv_goto (tgt := 84) hx hb dX11_isMiddle_232 (by decide) ?_
  exact hk84 hf hR (lv_sub hl [1, 2, 3, 4, 5, 6, 7, 8, 9, 10, 11, 12, 0] rfl)
set_option maxHeartbeats 4000000 in
set_option maxRecDepth 100000 in
theorem wX11_isMiddle_84 {r : Int32} {M : Mem} {k235 : Int64 → Int64 → Int64 → Int32 → Int32 → Int32 → Int32 → Int32 → Int32 → Option Int32} (X : CX E p s m args c meth cX11_isMiddle 27 (some .boolean) RX11) (hk235 : ∀ {y1 : Int64} {y3 : Int64} {y5 : Int64} {x7 : Int32} {x8 : Int32} {x13 : Int32} {x14 : Int32} {x15 : Int32} {x16 : Int32} {H : Heap} {locs : List Loc} {ls : Array Slot}, k235 y1 y3 y5 x7 x8 x13 x14 x15 x16 = some r → Rl E (sh_ b) (nn b) s.heap M H locs → lv_has ls 27 [(0, .ref (eB E + 47)), (1, .long y1), (3, .long y3), (5, .long y5), (7, .int x7), (8, .int x8), (13, .int x13), (14, .int x14), (15, .int x15), (16, .int x16)] → W p l e (rm 3 0 0) s m args below meth c H locs 0 0 (MQ below (qq E (some (.int r)) (sh_ b) (nn b) M) args s 0 0 (fr E)) (F0 m 235 ls [])) : ∀ (n : Nat) {y1 : Int64} {y3 : Int64} {y5 : Int64} {x7 : Int32} {x8 : Int32} {y9 : Int64} {y11 : Int64} {x13 : Int32} {x14 : Int32} {x15 : Int32} {x16 : Int32} {x17 : Int32} {H : Heap} {locs : List Loc} {ls : Array Slot}, fX11_isMiddle_84 M k235 n y1 y3 y5 x7 x8 y9 y11 x13 x14 x15 x16 x17 = some r → Rl E (sh_ b) (nn b) s.heap M H locs → lv_has ls 27 [(0, .ref (eB E + 47)), (1, .long y1), (3, .long y3), (5, .long y5), (7, .int x7), (8, .int x8), (9, .long y9), (11, .long y11), (13, .int x13), (14, .int x14), (15, .int x15), (16, .int x16), (17, .int x17)] → W p l e (rm 3 0 0) s m args below meth c H locs 0 0 (MQ below (qq E (some (.int r)) (sh_ b) (nn b) M) args s 0 0 (fr E)) (F0 m 84 ls []) := by
  obtain ⟨hx, hb, hr, hml, hown, hts, hK, hN, hO, hlk, hbs⟩ := id X
  intro n
  induction n with
  | zero =>
    intro y1 y3 y5 x7 x8 y9 y11 x13 x14 x15 x16 x17 H locs ls hf hR hl
    exact absurd (show none = some _ from hf) (fun h => by cases h)
  | succ n ih =>
    intro y1 y3 y5 x7 x8 y9 y11 x13 x14 x15 x16 x17 H locs ls hf hR hl
    rw [fX11_isMiddle_84] at hf
    refine lv_iload hx hb dX11_isMiddle_84 (lv_at hl 12 rfl) ?_
    refine lv_aload_n hx hb dX11_isMiddle_86 rfl (lv_at hl 0 rfl) ?_
    obtain ⟨q87, c87, hf⟩ := br_b hf
    refine x_callV (k := 47) (As := []) (rest := [.int x17]) (st1 := [.int q87, .int x17]) X hR (ctX11_voters c87) ml_X11_237 im_X11_voters se_X11_voters in_X11 co_X11_voters yo_X11_voters rfl kX11 (z_47 b) (rm_ok (by decide) (by decide)) rfl hl.1 rfl rfl (Nat.le_of_ble_eq_true rfl) dX11_isMiddle_87 ⟨Nat.zero_le _, Nat.zero_le _⟩ (fun H locs hR => ?_)
    refine lv_icmp_ge (tgt := 235) hx hb dX11_isMiddle_90 (by decide) (fun q90 => ?_) (fun q90 => ?_)
    · have hf := (br_if hf).1 q90
      exact hk235 hf hR (lv_sub hl [0, 1, 2, 3, 4, 5, 8, 9, 10, 11] rfl)
    · have hf := (br_if hf).2 q90
      refine lv_lload hx hb dX11_isMiddle_93 (lv_at hl 3 rfl) ?_
      refine lv_aload_n hx hb dX11_isMiddle_95 rfl (lv_at hl 0 rfl) ?_
      refine x_get hx hb hown hts hK hR kX11 (z_47 b) (j := 6) (by decide) fl_X11_15 (v := .ref (eB E + 49)) rfl dX11_isMiddle_96 ?_
      refine lv_iconst (v := 0) hx hb dX11_isMiddle_99 (by decide) ?_
      refine x_aald5 hx hb hK hR (z_49 b) (by decide) (r := 50) rfl dX11_isMiddle_100 ?_
      refine lv_iload hx hb dX11_isMiddle_101 (lv_at hl 12 rfl) ?_
      obtain ⟨g103, hf⟩ := br_g hf
      refine x_iald hx hb hK hR (z_50 b) g103 dX11_isMiddle_103 ?_
      refine lv_i2l (v := (M.1 50 (ix x17)).toInt64) hx hb dX11_isMiddle_104 rfl ?_
      refine lv_lmul hx hb dX11_isMiddle_105 ?_
      refine lv_lload_n hx hb dX11_isMiddle_106 rfl (lv_at hl 1 rfl) ?_
      refine lv_lsub hx hb dX11_isMiddle_107 ?_
      refine lv_topl (fun v108 e108 => ?_)
      have hf := nx_at e108 hf
      refine lv_lstore (lv' := [(18, .long v108), (0, .ref (eB E + 47)), (1, .long y1), (3, .long y3), (5, .long y5), (7, .int x7), (8, .int x8), (9, .long y9), (11, .long y11), (13, .int x13), (14, .int x14), (15, .int x15), (16, .int x16), (17, .int x17)]) hx hb dX11_isMiddle_108 hl (by decide) rfl (fun ls hl => ?_)
      refine lv_lload hx hb dX11_isMiddle_110 (lv_at hl 4 rfl) ?_
      refine lv_aload_n hx hb dX11_isMiddle_112 rfl (lv_at hl 1 rfl) ?_
      refine x_get hx hb hown hts hK hR kX11 (z_47 b) (j := 7) (by decide) fl_X11_18 (v := .ref (eB E + 52)) rfl dX11_isMiddle_113 ?_
      refine lv_iconst (v := 0) hx hb dX11_isMiddle_116 (by decide) ?_
      refine x_aald5 hx hb hK hR (z_52 b) (by decide) (r := 53) rfl dX11_isMiddle_117 ?_
      refine lv_iload hx hb dX11_isMiddle_118 (lv_at hl 13 rfl) ?_
      obtain ⟨g120, hf⟩ := br_g hf
      refine x_iald hx hb hK hR (z_53 b) g120 dX11_isMiddle_120 ?_
      refine lv_i2l (v := (M.1 53 (ix x17)).toInt64) hx hb dX11_isMiddle_121 rfl ?_
      refine lv_lmul hx hb dX11_isMiddle_122 ?_
      refine lv_lload_n hx hb dX11_isMiddle_123 rfl (lv_at hl 3 rfl) ?_
      refine lv_lsub hx hb dX11_isMiddle_124 ?_
      refine lv_topl (fun v125 e125 => ?_)
      have hf := nx_at e125 hf
      refine lv_lstore (lv' := [(20, .long v125), (18, .long v108), (0, .ref (eB E + 47)), (1, .long y1), (3, .long y3), (5, .long y5), (7, .int x7), (8, .int x8), (9, .long y9), (11, .long y11), (13, .int x13), (14, .int x14), (15, .int x15), (16, .int x16), (17, .int x17)]) hx hb dX11_isMiddle_125 hl (by decide) rfl (fun ls hl => ?_)
      refine lv_lload hx hb dX11_isMiddle_127 (lv_at hl 8 rfl) ?_
      refine lv_lload hx hb dX11_isMiddle_129 (lv_at hl 0 rfl) ?_
      refine lv_lmul hx hb dX11_isMiddle_131 ?_
      refine lv_lload hx hb dX11_isMiddle_132 (lv_at hl 9 rfl) ?_
      refine lv_lload hx hb dX11_isMiddle_134 (lv_at hl 1 rfl) ?_
      refine lv_lmul hx hb dX11_isMiddle_136 ?_
      refine lv_lsub hx hb dX11_isMiddle_137 ?_
      refine lv_topl (fun v138 e138 => ?_)
      have hf := nx_at e138 hf
      refine lv_lstore (lv' := [(22, .long v138), (20, .long v125), (18, .long v108), (0, .ref (eB E + 47)), (1, .long y1), (3, .long y3), (5, .long y5), (7, .int x7), (8, .int x8), (9, .long y9), (11, .long y11), (13, .int x13), (14, .int x14), (15, .int x15), (16, .int x16), (17, .int x17)]) hx hb dX11_isMiddle_138 hl (by decide) rfl (fun ls hl => ?_)
      refine lv_lload hx hb dX11_isMiddle_140 (lv_at hl 9 rfl) ?_
      refine lv_lload hx hb dX11_isMiddle_142 (lv_at hl 2 rfl) ?_
      refine lv_lmul hx hb dX11_isMiddle_144 ?_
      refine lv_lload hx hb dX11_isMiddle_145 (lv_at hl 10 rfl) ?_
      refine lv_lload hx hb dX11_isMiddle_147 (lv_at hl 1 rfl) ?_
      refine lv_lmul hx hb dX11_isMiddle_149 ?_
      refine lv_ladd hx hb dX11_isMiddle_150 ?_
      refine lv_topl (fun v151 e151 => ?_)
      have hf := nx_at e151 hf
      refine lv_lstore (lv' := [(24, .long v151), (22, .long v138), (20, .long v125), (18, .long v108), (0, .ref (eB E + 47)), (1, .long y1), (3, .long y3), (5, .long y5), (7, .int x7), (8, .int x8), (9, .long y9), (11, .long y11), (13, .int x13), (14, .int x14), (15, .int x15), (16, .int x16), (17, .int x17)]) hx hb dX11_isMiddle_151 hl (by decide) rfl (fun ls hl => ?_)
      refine lv_aload_n hx hb dX11_isMiddle_153 rfl (lv_at hl 4 rfl) ?_
      refine x_get hx hb hown hts hK hR kX11 (z_47 b) (j := 8) (by decide) fl_X11_21 (v := .ref (eB E + 55)) rfl dX11_isMiddle_154 ?_
      refine lv_iconst (v := 0) hx hb dX11_isMiddle_157 (by decide) ?_
      refine x_aald5 hx hb hK hR (z_55 b) (by decide) (r := 56) rfl dX11_isMiddle_158 ?_
      refine lv_iload hx hb dX11_isMiddle_159 (lv_at hl 16 rfl) ?_
      obtain ⟨g161, hf⟩ := br_g hf
      refine x_iald hx hb hK hR (z_56 b) g161 dX11_isMiddle_161 ?_
      refine lv_topi (fun v162 e162 => ?_)
      have hf := nx_at e162 hf
      refine lv_istore (lv' := [(26, .int v162), (24, .long v151), (22, .long v138), (20, .long v125), (18, .long v108), (0, .ref (eB E + 47)), (1, .long y1), (3, .long y3), (5, .long y5), (7, .int x7), (8, .int x8), (9, .long y9), (11, .long y11), (13, .int x13), (14, .int x14), (15, .int x15), (16, .int x16), (17, .int x17)]) hx hb dX11_isMiddle_162 hl (by decide) rfl (fun ls hl => ?_)
      refine lv_lload hx hb dX11_isMiddle_164 (lv_at hl 2 rfl) ?_
      refine lv_lconst (v := 0) hx hb dX11_isMiddle_166 (by decide) ?_
      refine W.lcmp hx hb dX11_isMiddle_167 ?_
      refine lv_if_le (tgt := 181) hx hb dX11_isMiddle_168 (by decide) (fun q168 => ?_) (fun q168 => ?_)
      · have hf := (br_if hf).1 q168
        refine lv_lload hx hb dX11_isMiddle_181 (lv_at hl 2 rfl) ?_
        refine lv_lconst (v := 0) hx hb dX11_isMiddle_183 (by decide) ?_
        refine W.lcmp hx hb dX11_isMiddle_184 ?_
        refine lv_if_ge (tgt := 198) hx hb dX11_isMiddle_185 (by decide) (fun q185 => ?_) (fun q185 => ?_)
        · have hf := (br_if hf).1 q185
          refine lv_lload hx hb dX11_isMiddle_198 (lv_at hl 1 rfl) ?_
          refine lv_lconst (v := 0) hx hb dX11_isMiddle_200 (by decide) ?_
          refine W.lcmp hx hb dX11_isMiddle_201 ?_
          refine lv_if_le (tgt := 215) hx hb dX11_isMiddle_202 (by decide) (fun q202 => ?_) (fun q202 => ?_)
          · have hf := (br_if hf).1 q202
            refine lv_lload hx hb dX11_isMiddle_215 (lv_at hl 1 rfl) ?_
            refine lv_lconst (v := 0) hx hb dX11_isMiddle_217 (by decide) ?_
            refine W.lcmp hx hb dX11_isMiddle_218 ?_
            refine lv_if_ge (tgt := 229) hx hb dX11_isMiddle_219 (by decide) (fun q219 => ?_) (fun q219 => ?_)
            · have hf := (br_if hf).1 q219
              exact wX11_isMiddle_229 X (fun hf hR hl => ih hf hR hl) (fun hf hR hl => hk235 hf hR hl) hf hR (lv_sub hl [5, 6, 7, 8, 9, 10, 11, 12, 13, 14, 15, 16, 17] rfl)
            · have hf := (br_if hf).2 q219
              refine lv_iload hx hb dX11_isMiddle_222 (lv_at hl 16 rfl) ?_
              refine lv_iload hx hb dX11_isMiddle_224 (lv_at hl 0 rfl) ?_
              refine lv_iadd hx hb dX11_isMiddle_226 ?_
              refine lv_topi (fun v227 e227 => ?_)
              have hf := nx_at e227 hf
              refine lv_istore (lv' := [(16, .int v227), (26, .int v162), (24, .long v151), (22, .long v138), (20, .long v125), (18, .long v108), (0, .ref (eB E + 47)), (1, .long y1), (3, .long y3), (5, .long y5), (7, .int x7), (8, .int x8), (9, .long y9), (11, .long y11), (13, .int x13), (14, .int x14), (15, .int x15), (17, .int x17)]) hx hb dX11_isMiddle_227 hl (by decide) rfl (fun ls hl => ?_)
              exact wX11_isMiddle_229 X (fun hf hR hl => ih hf hR hl) (fun hf hR hl => hk235 hf hR hl) hf hR (lv_sub hl [6, 7, 8, 9, 10, 11, 12, 13, 14, 15, 16, 0, 17] rfl)
          · have hf := (br_if hf).2 q202
            refine lv_iload hx hb dX11_isMiddle_205 (lv_at hl 15 rfl) ?_
            refine lv_iload hx hb dX11_isMiddle_207 (lv_at hl 0 rfl) ?_
            refine lv_iadd hx hb dX11_isMiddle_209 ?_
            refine lv_topi (fun v210 e210 => ?_)
            have hf := nx_at e210 hf
            refine lv_istore (lv' := [(15, .int v210), (26, .int v162), (24, .long v151), (22, .long v138), (20, .long v125), (18, .long v108), (0, .ref (eB E + 47)), (1, .long y1), (3, .long y3), (5, .long y5), (7, .int x7), (8, .int x8), (9, .long y9), (11, .long y11), (13, .int x13), (14, .int x14), (16, .int x16), (17, .int x17)]) hx hb dX11_isMiddle_210 hl (by decide) rfl (fun ls hl => ?_)
            refine lv_goto (tgt := 229) hx hb dX11_isMiddle_212 (by decide) ?_
            exact wX11_isMiddle_229 X (fun hf hR hl => ih hf hR hl) (fun hf hR hl => hk235 hf hR hl) hf hR (lv_sub hl [6, 7, 8, 9, 10, 11, 12, 13, 14, 15, 0, 16, 17] rfl)
        · have hf := (br_if hf).2 q185
          refine lv_iload hx hb dX11_isMiddle_188 (lv_at hl 14 rfl) ?_
          refine lv_iload hx hb dX11_isMiddle_190 (lv_at hl 0 rfl) ?_
          refine lv_iadd hx hb dX11_isMiddle_192 ?_
          refine lv_topi (fun v193 e193 => ?_)
          have hf := nx_at e193 hf
          refine lv_istore (lv' := [(14, .int v193), (26, .int v162), (24, .long v151), (22, .long v138), (20, .long v125), (18, .long v108), (0, .ref (eB E + 47)), (1, .long y1), (3, .long y3), (5, .long y5), (7, .int x7), (8, .int x8), (9, .long y9), (11, .long y11), (13, .int x13), (15, .int x15), (16, .int x16), (17, .int x17)]) hx hb dX11_isMiddle_193 hl (by decide) rfl (fun ls hl => ?_)
          refine lv_goto (tgt := 229) hx hb dX11_isMiddle_195 (by decide) ?_
          exact wX11_isMiddle_229 X (fun hf hR hl => ih hf hR hl) (fun hf hR hl => hk235 hf hR hl) hf hR (lv_sub hl [6, 7, 8, 9, 10, 11, 12, 13, 14, 0, 15, 16, 17] rfl)
      · have hf := (br_if hf).2 q168
        refine lv_iload hx hb dX11_isMiddle_171 (lv_at hl 13 rfl) ?_
        refine lv_iload hx hb dX11_isMiddle_173 (lv_at hl 0 rfl) ?_
        refine lv_iadd hx hb dX11_isMiddle_175 ?_
        refine lv_topi (fun v176 e176 => ?_)
        have hf := nx_at e176 hf
        refine lv_istore (lv' := [(13, .int v176), (26, .int v162), (24, .long v151), (22, .long v138), (20, .long v125), (18, .long v108), (0, .ref (eB E + 47)), (1, .long y1), (3, .long y3), (5, .long y5), (7, .int x7), (8, .int x8), (9, .long y9), (11, .long y11), (14, .int x14), (15, .int x15), (16, .int x16), (17, .int x17)]) hx hb dX11_isMiddle_176 hl (by decide) rfl (fun ls hl => ?_)
        refine lv_goto (tgt := 229) hx hb dX11_isMiddle_178 (by decide) ?_
        exact wX11_isMiddle_229 X (fun hf hR hl => ih hf hR hl) (fun hf hR hl => hk235 hf hR hl) hf hR (lv_sub hl [6, 7, 8, 9, 10, 11, 12, 13, 0, 14, 15, 16, 17] rfl)
set_option maxHeartbeats 4000000 in
set_option maxRecDepth 100000 in
theorem wX11_isMiddle_259 {r : Int32} {M : Mem} {k9 : Int64 → Int64 → Int64 → Int32 → Int32 → Option Int32} {k257 : Option Int32} {k265 : Option Int32} (X : CX E p s m args c meth cX11_isMiddle 27 (some .boolean) RX11) (hk9 : ∀ {y1 : Int64} {y3 : Int64} {y5 : Int64} {x7 : Int32} {x8 : Int32} {H : Heap} {locs : List Loc} {ls : Array Slot}, k9 y1 y3 y5 x7 x8 = some r → Rl E (sh_ b) (nn b) s.heap M H locs → lv_has ls 27 [(0, .ref (eB E + 47)), (1, .long y1), (3, .long y3), (5, .long y5), (7, .int x7), (8, .int x8)] → W p l e (rm 3 0 0) s m args below meth c H locs 0 0 (MQ below (qq E (some (.int r)) (sh_ b) (nn b) M) args s 0 0 (fr E)) (F0 m 9 ls [])) (hk257 : ∀ {H : Heap} {locs : List Loc} {ls : Array Slot}, k257 = some r → Rl E (sh_ b) (nn b) s.heap M H locs → lv_has ls 27 [] → W p l e (rm 3 0 0) s m args below meth c H locs 0 0 (MQ below (qq E (some (.int r)) (sh_ b) (nn b) M) args s 0 0 (fr E)) (F0 m 257 ls [])) (hk265 : ∀ {H : Heap} {locs : List Loc} {ls : Array Slot}, k265 = some r → Rl E (sh_ b) (nn b) s.heap M H locs → lv_has ls 27 [] → W p l e (rm 3 0 0) s m args below meth c H locs 0 0 (MQ below (qq E (some (.int r)) (sh_ b) (nn b) M) args s 0 0 (fr E)) (F0 m 265 ls [])) : ∀ {y1 : Int64} {y3 : Int64} {y5 : Int64} {x7 : Int32} {x8 : Int32} {H : Heap} {locs : List Loc} {ls : Array Slot}, fX11_isMiddle_259 M k9 k257 k265 y1 y3 y5 x7 x8 = some r → Rl E (sh_ b) (nn b) s.heap M H locs → lv_has ls 27 [(0, .ref (eB E + 47)), (1, .long y1), (3, .long y3), (5, .long y5), (7, .int x7), (8, .int x8)] → W p l e (rm 3 0 0) s m args below meth c H locs 0 0 (MQ below (qq E (some (.int r)) (sh_ b) (nn b) M) args s 0 0 (fr E)) (F0 m 259 ls []) := by
  obtain ⟨hx, hb, hr, hml, hown, hts, hK, hN, hO, hlk, hbs⟩ := id X
  intro y1 y3 y5 x7 x8 H locs ls hf hR hl
  unfold fX11_isMiddle_259 at hf
  obtain ⟨v259, e259⟩ : ∃ y : Int32, y = (x8 + (1 : Int32)) := ⟨_, rfl⟩
  have hf := nx_at e259 hf
  refine lv_iinc (v := v259) (lv' := [(8, .int v259), (0, .ref (eB E + 47)), (1, .long y1), (3, .long y3), (5, .long y5), (7, .int x7)]) hx hb dX11_isMiddle_259 hl (k := 5) rfl (by rw [e259]; rfl) (by decide) rfl (fun ls hl => ?_)
  refine lv_goto (tgt := 9) hx hb dX11_isMiddle_262 (by decide) ?_
  exact hk9 hf hR (lv_sub hl [1, 2, 3, 4, 5, 0] rfl)
set_option maxHeartbeats 4000000 in
set_option maxRecDepth 100000 in
theorem wX11_isMiddle_235 {r : Int32} {M : Mem} {k9 : Int64 → Int64 → Int64 → Int32 → Int32 → Option Int32} {k257 : Option Int32} {k265 : Option Int32} (X : CX E p s m args c meth cX11_isMiddle 27 (some .boolean) RX11) (hk9 : ∀ {y1 : Int64} {y3 : Int64} {y5 : Int64} {x7 : Int32} {x8 : Int32} {H : Heap} {locs : List Loc} {ls : Array Slot}, k9 y1 y3 y5 x7 x8 = some r → Rl E (sh_ b) (nn b) s.heap M H locs → lv_has ls 27 [(0, .ref (eB E + 47)), (1, .long y1), (3, .long y3), (5, .long y5), (7, .int x7), (8, .int x8)] → W p l e (rm 3 0 0) s m args below meth c H locs 0 0 (MQ below (qq E (some (.int r)) (sh_ b) (nn b) M) args s 0 0 (fr E)) (F0 m 9 ls [])) (hk257 : ∀ {H : Heap} {locs : List Loc} {ls : Array Slot}, k257 = some r → Rl E (sh_ b) (nn b) s.heap M H locs → lv_has ls 27 [] → W p l e (rm 3 0 0) s m args below meth c H locs 0 0 (MQ below (qq E (some (.int r)) (sh_ b) (nn b) M) args s 0 0 (fr E)) (F0 m 257 ls [])) (hk265 : ∀ {H : Heap} {locs : List Loc} {ls : Array Slot}, k265 = some r → Rl E (sh_ b) (nn b) s.heap M H locs → lv_has ls 27 [] → W p l e (rm 3 0 0) s m args below meth c H locs 0 0 (MQ below (qq E (some (.int r)) (sh_ b) (nn b) M) args s 0 0 (fr E)) (F0 m 265 ls [])) : ∀ {y1 : Int64} {y3 : Int64} {y5 : Int64} {x7 : Int32} {x8 : Int32} {x13 : Int32} {x14 : Int32} {x15 : Int32} {x16 : Int32} {H : Heap} {locs : List Loc} {ls : Array Slot}, fX11_isMiddle_235 M k9 k257 k265 y1 y3 y5 x7 x8 x13 x14 x15 x16 = some r → Rl E (sh_ b) (nn b) s.heap M H locs → lv_has ls 27 [(0, .ref (eB E + 47)), (1, .long y1), (3, .long y3), (5, .long y5), (7, .int x7), (8, .int x8), (13, .int x13), (14, .int x14), (15, .int x15), (16, .int x16)] → W p l e (rm 3 0 0) s m args below meth c H locs 0 0 (MQ below (qq E (some (.int r)) (sh_ b) (nn b) M) args s 0 0 (fr E)) (F0 m 235 ls []) := by
  obtain ⟨hx, hb, hr, hml, hown, hts, hK, hN, hO, hlk, hbs⟩ := id X
  intro y1 y3 y5 x7 x8 x13 x14 x15 x16 H locs ls hf hR hl
  unfold fX11_isMiddle_235 at hf
  refine lv_iconst (v := 2) hx hb dX11_isMiddle_235 (by decide) ?_
  refine lv_iload hx hb dX11_isMiddle_236 (lv_at hl 6 rfl) ?_
  refine lv_iload hx hb dX11_isMiddle_238 (lv_at hl 7 rfl) ?_
  refine va_mmax hx hb (by rw [hml]; exact hl.1.symm) hown (hts _ ml_X11_192) (hts _ st_max) (hts _ in_J9) (hts _ co_max) (by decide) (Nat.le_of_ble_eq_true rfl) (Nat.zero_le _) (Nat.zero_le _) dX11_isMiddle_240 ?_
  refine W.eq (g2 := F0 m 243 ls [.int (imax x13 x14), .int (2 : Int32)]) rfl ?_
  refine lv_iload hx hb dX11_isMiddle_243 (lv_at hl 8 rfl) ?_
  refine lv_iload hx hb dX11_isMiddle_245 (lv_at hl 9 rfl) ?_
  refine va_mmax hx hb (by rw [hml]; exact hl.1.symm) hown (hts _ ml_X11_192) (hts _ st_max) (hts _ in_J9) (hts _ co_max) (by decide) (Nat.le_of_ble_eq_true rfl) (Nat.zero_le _) (Nat.zero_le _) dX11_isMiddle_247 ?_
  refine W.eq (g2 := F0 m 250 ls [.int (imax x15 x16), .int (imax x13 x14), .int (2 : Int32)]) rfl ?_
  refine lv_iadd hx hb dX11_isMiddle_250 ?_
  refine lv_imul hx hb dX11_isMiddle_251 ?_
  refine lv_iload hx hb dX11_isMiddle_252 (lv_at hl 4 rfl) ?_
  refine lv_icmp_le (tgt := 259) hx hb dX11_isMiddle_254 (by decide) (fun q254 => ?_) (fun q254 => ?_)
  · have hf := (br_if hf).1 q254
    exact wX11_isMiddle_259 X (fun hf hR hl => hk9 hf hR hl) (fun hf hR hl => hk257 hf hR hl) (fun hf hR hl => hk265 hf hR hl) hf hR (lv_sub hl [0, 1, 2, 3, 4, 5] rfl)
  · have hf := (br_if hf).2 q254
    exact hk257 hf hR (lv_sub hl [] rfl)
set_option maxHeartbeats 4000000 in
set_option maxRecDepth 100000 in
theorem wX11_isMiddle_69 {r : Int32} {M : Mem} {k9 : Int64 → Int64 → Int64 → Int32 → Int32 → Option Int32} {k257 : Option Int32} {k265 : Option Int32} (X : CX E p s m args c meth cX11_isMiddle 27 (some .boolean) RX11) (hk9 : ∀ {y1 : Int64} {y3 : Int64} {y5 : Int64} {x7 : Int32} {x8 : Int32} {H : Heap} {locs : List Loc} {ls : Array Slot}, k9 y1 y3 y5 x7 x8 = some r → Rl E (sh_ b) (nn b) s.heap M H locs → lv_has ls 27 [(0, .ref (eB E + 47)), (1, .long y1), (3, .long y3), (5, .long y5), (7, .int x7), (8, .int x8)] → W p l e (rm 3 0 0) s m args below meth c H locs 0 0 (MQ below (qq E (some (.int r)) (sh_ b) (nn b) M) args s 0 0 (fr E)) (F0 m 9 ls [])) (hk257 : ∀ {H : Heap} {locs : List Loc} {ls : Array Slot}, k257 = some r → Rl E (sh_ b) (nn b) s.heap M H locs → lv_has ls 27 [] → W p l e (rm 3 0 0) s m args below meth c H locs 0 0 (MQ below (qq E (some (.int r)) (sh_ b) (nn b) M) args s 0 0 (fr E)) (F0 m 257 ls [])) (hk265 : ∀ {H : Heap} {locs : List Loc} {ls : Array Slot}, k265 = some r → Rl E (sh_ b) (nn b) s.heap M H locs → lv_has ls 27 [] → W p l e (rm 3 0 0) s m args below meth c H locs 0 0 (MQ below (qq E (some (.int r)) (sh_ b) (nn b) M) args s 0 0 (fr E)) (F0 m 265 ls [])) : ∀ {y1 : Int64} {y3 : Int64} {y5 : Int64} {x7 : Int32} {x8 : Int32} {y9 : Int64} {y11 : Int64} {H : Heap} {locs : List Loc} {ls : Array Slot}, fX11_isMiddle_69 M k9 k257 k265 y1 y3 y5 x7 x8 y9 y11 = some r → Rl E (sh_ b) (nn b) s.heap M H locs → lv_has ls 27 [(0, .ref (eB E + 47)), (1, .long y1), (3, .long y3), (5, .long y5), (7, .int x7), (8, .int x8), (9, .long y9), (11, .long y11)] → W p l e (rm 3 0 0) s m args below meth c H locs 0 0 (MQ below (qq E (some (.int r)) (sh_ b) (nn b) M) args s 0 0 (fr E)) (F0 m 69 ls []) := by
  obtain ⟨hx, hb, hr, hml, hown, hts, hK, hN, hO, hlk, hbs⟩ := id X
  intro y1 y3 y5 x7 x8 y9 y11 H locs ls hf hR hl
  unfold fX11_isMiddle_69 at hf
  refine lv_iconst (v := 0) hx hb dX11_isMiddle_69 (by decide) ?_
  refine lv_istore (lv' := [(13, .int (0 : Int32)), (0, .ref (eB E + 47)), (1, .long y1), (3, .long y3), (5, .long y5), (7, .int x7), (8, .int x8), (9, .long y9), (11, .long y11)]) hx hb dX11_isMiddle_70 hl (by decide) rfl (fun ls hl => ?_)
  refine lv_iconst (v := 0) hx hb dX11_isMiddle_72 (by decide) ?_
  refine lv_istore (lv' := [(14, .int (0 : Int32)), (13, .int (0 : Int32)), (0, .ref (eB E + 47)), (1, .long y1), (3, .long y3), (5, .long y5), (7, .int x7), (8, .int x8), (9, .long y9), (11, .long y11)]) hx hb dX11_isMiddle_73 hl (by decide) rfl (fun ls hl => ?_)
  refine lv_iconst (v := 0) hx hb dX11_isMiddle_75 (by decide) ?_
  refine lv_istore (lv' := [(15, .int (0 : Int32)), (14, .int (0 : Int32)), (13, .int (0 : Int32)), (0, .ref (eB E + 47)), (1, .long y1), (3, .long y3), (5, .long y5), (7, .int x7), (8, .int x8), (9, .long y9), (11, .long y11)]) hx hb dX11_isMiddle_76 hl (by decide) rfl (fun ls hl => ?_)
  refine lv_iconst (v := 0) hx hb dX11_isMiddle_78 (by decide) ?_
  refine lv_istore (lv' := [(16, .int (0 : Int32)), (15, .int (0 : Int32)), (14, .int (0 : Int32)), (13, .int (0 : Int32)), (0, .ref (eB E + 47)), (1, .long y1), (3, .long y3), (5, .long y5), (7, .int x7), (8, .int x8), (9, .long y9), (11, .long y11)]) hx hb dX11_isMiddle_79 hl (by decide) rfl (fun ls hl => ?_)
  refine lv_iconst (v := 0) hx hb dX11_isMiddle_81 (by decide) ?_
  refine lv_istore (lv' := [(17, .int (0 : Int32)), (16, .int (0 : Int32)), (15, .int (0 : Int32)), (14, .int (0 : Int32)), (13, .int (0 : Int32)), (0, .ref (eB E + 47)), (1, .long y1), (3, .long y3), (5, .long y5), (7, .int x7), (8, .int x8), (9, .long y9), (11, .long y11)]) hx hb dX11_isMiddle_82 hl (by decide) rfl (fun ls hl => ?_)
  exact wX11_isMiddle_84 X (fun hf hR hl => wX11_isMiddle_235 X (fun hf hR hl => hk9 hf hR hl) (fun hf hR hl => hk257 hf hR hl) (fun hf hR hl => hk265 hf hR hl) hf hR hl) FU hf hR (lv_sub hl [5, 6, 7, 8, 9, 10, 11, 12, 4, 3, 2, 1, 0] rfl)
set_option maxHeartbeats 4000000 in
set_option maxRecDepth 100000 in
theorem wX11_isMiddle_9 {r : Int32} {M : Mem} {k257 : Option Int32} {k265 : Option Int32} (X : CX E p s m args c meth cX11_isMiddle 27 (some .boolean) RX11) (hk257 : ∀ {H : Heap} {locs : List Loc} {ls : Array Slot}, k257 = some r → Rl E (sh_ b) (nn b) s.heap M H locs → lv_has ls 27 [] → W p l e (rm 3 0 0) s m args below meth c H locs 0 0 (MQ below (qq E (some (.int r)) (sh_ b) (nn b) M) args s 0 0 (fr E)) (F0 m 257 ls [])) (hk265 : ∀ {H : Heap} {locs : List Loc} {ls : Array Slot}, k265 = some r → Rl E (sh_ b) (nn b) s.heap M H locs → lv_has ls 27 [] → W p l e (rm 3 0 0) s m args below meth c H locs 0 0 (MQ below (qq E (some (.int r)) (sh_ b) (nn b) M) args s 0 0 (fr E)) (F0 m 265 ls [])) : ∀ (n : Nat) {y1 : Int64} {y3 : Int64} {y5 : Int64} {x7 : Int32} {x8 : Int32} {H : Heap} {locs : List Loc} {ls : Array Slot}, fX11_isMiddle_9 M k257 k265 n y1 y3 y5 x7 x8 = some r → Rl E (sh_ b) (nn b) s.heap M H locs → lv_has ls 27 [(0, .ref (eB E + 47)), (1, .long y1), (3, .long y3), (5, .long y5), (7, .int x7), (8, .int x8)] → W p l e (rm 3 0 0) s m args below meth c H locs 0 0 (MQ below (qq E (some (.int r)) (sh_ b) (nn b) M) args s 0 0 (fr E)) (F0 m 9 ls []) := by
  obtain ⟨hx, hb, hr, hml, hown, hts, hK, hN, hO, hlk, hbs⟩ := id X
  intro n
  induction n with
  | zero =>
    intro y1 y3 y5 x7 x8 H locs ls hf hR hl
    exact absurd (show none = some _ from hf) (fun h => by cases h)
  | succ n ih =>
    intro y1 y3 y5 x7 x8 H locs ls hf hR hl
    rw [fX11_isMiddle_9] at hf
    refine lv_iload hx hb dX11_isMiddle_9 (lv_at hl 5 rfl) ?_
    refine lv_aload_n hx hb dX11_isMiddle_11 rfl (lv_at hl 0 rfl) ?_
    obtain ⟨q12, c12, hf⟩ := br_b hf
    refine x_callV (k := 47) (As := []) (rest := [.int x8]) (st1 := [.int q12, .int x8]) X hR (ctX11_voters c12) ml_X11_237 im_X11_voters se_X11_voters in_X11 co_X11_voters yo_X11_voters rfl kX11 (z_47 b) (rm_ok (by decide) (by decide)) rfl hl.1 rfl rfl (Nat.le_of_ble_eq_true rfl) dX11_isMiddle_12 ⟨Nat.zero_le _, Nat.zero_le _⟩ (fun H locs hR => ?_)
    refine lv_icmp_ge (tgt := 265) hx hb dX11_isMiddle_15 (by decide) (fun q15 => ?_) (fun q15 => ?_)
    · have hf := (br_if hf).1 q15
      exact hk265 hf hR (lv_sub hl [] rfl)
    · have hf := (br_if hf).2 q15
      refine lv_lload hx hb dX11_isMiddle_18 (lv_at hl 3 rfl) ?_
      refine lv_aload_n hx hb dX11_isMiddle_20 rfl (lv_at hl 0 rfl) ?_
      refine x_get hx hb hown hts hK hR kX11 (z_47 b) (j := 6) (by decide) fl_X11_15 (v := .ref (eB E + 49)) rfl dX11_isMiddle_21 ?_
      refine lv_iconst (v := 0) hx hb dX11_isMiddle_24 (by decide) ?_
      refine x_aald5 hx hb hK hR (z_49 b) (by decide) (r := 50) rfl dX11_isMiddle_25 ?_
      refine lv_iload hx hb dX11_isMiddle_26 (lv_at hl 5 rfl) ?_
      obtain ⟨g28, hf⟩ := br_g hf
      refine x_iald hx hb hK hR (z_50 b) g28 dX11_isMiddle_28 ?_
      refine lv_i2l (v := (M.1 50 (ix x8)).toInt64) hx hb dX11_isMiddle_29 rfl ?_
      refine lv_lmul hx hb dX11_isMiddle_30 ?_
      refine lv_lload_n hx hb dX11_isMiddle_31 rfl (lv_at hl 1 rfl) ?_
      refine lv_lsub hx hb dX11_isMiddle_32 ?_
      refine lv_topl (fun v33 e33 => ?_)
      have hf := nx_at e33 hf
      refine lv_lstore (lv' := [(9, .long v33), (0, .ref (eB E + 47)), (1, .long y1), (3, .long y3), (5, .long y5), (7, .int x7), (8, .int x8)]) hx hb dX11_isMiddle_33 hl (by decide) rfl (fun ls hl => ?_)
      refine lv_lload hx hb dX11_isMiddle_35 (lv_at hl 4 rfl) ?_
      refine lv_aload_n hx hb dX11_isMiddle_37 rfl (lv_at hl 1 rfl) ?_
      refine x_get hx hb hown hts hK hR kX11 (z_47 b) (j := 7) (by decide) fl_X11_18 (v := .ref (eB E + 52)) rfl dX11_isMiddle_38 ?_
      refine lv_iconst (v := 0) hx hb dX11_isMiddle_41 (by decide) ?_
      refine x_aald5 hx hb hK hR (z_52 b) (by decide) (r := 53) rfl dX11_isMiddle_42 ?_
      refine lv_iload hx hb dX11_isMiddle_43 (lv_at hl 6 rfl) ?_
      obtain ⟨g45, hf⟩ := br_g hf
      refine x_iald hx hb hK hR (z_53 b) g45 dX11_isMiddle_45 ?_
      refine lv_i2l (v := (M.1 53 (ix x8)).toInt64) hx hb dX11_isMiddle_46 rfl ?_
      refine lv_lmul hx hb dX11_isMiddle_47 ?_
      refine lv_lload_n hx hb dX11_isMiddle_48 rfl (lv_at hl 3 rfl) ?_
      refine lv_lsub hx hb dX11_isMiddle_49 ?_
      refine lv_topl (fun v50 e50 => ?_)
      have hf := nx_at e50 hf
      refine lv_lstore (lv' := [(11, .long v50), (9, .long v33), (0, .ref (eB E + 47)), (1, .long y1), (3, .long y3), (5, .long y5), (7, .int x7), (8, .int x8)]) hx hb dX11_isMiddle_50 hl (by decide) rfl (fun ls hl => ?_)
      refine lv_lload hx hb dX11_isMiddle_52 (lv_at hl 1 rfl) ?_
      refine lv_lconst (v := 0) hx hb dX11_isMiddle_54 (by decide) ?_
      refine W.lcmp hx hb dX11_isMiddle_55 ?_
      refine lv_if_ne (tgt := 69) hx hb dX11_isMiddle_56 (by decide) (fun q56 => ?_) (fun q56 => ?_)
      · have hf := (br_if hf).2 q56
        exact wX11_isMiddle_69 X (fun hf hR hl => ih hf hR hl) (fun hf hR hl => hk257 hf hR hl) (fun hf hR hl => hk265 hf hR hl) hf hR (lv_sub hl [2, 3, 4, 5, 6, 7, 1, 0] rfl)
      · have hf := (br_if hf).1 q56
        refine lv_lload hx hb dX11_isMiddle_59 (lv_at hl 0 rfl) ?_
        refine lv_lconst (v := 0) hx hb dX11_isMiddle_61 (by decide) ?_
        refine W.lcmp hx hb dX11_isMiddle_62 ?_
        refine lv_if_ne (tgt := 69) hx hb dX11_isMiddle_63 (by decide) (fun q63 => ?_) (fun q63 => ?_)
        · have hf := (br_if hf).2 q63
          exact wX11_isMiddle_69 X (fun hf hR hl => ih hf hR hl) (fun hf hR hl => hk257 hf hR hl) (fun hf hR hl => hk265 hf hR hl) hf hR (lv_sub hl [2, 3, 4, 5, 6, 7, 1, 0] rfl)
        · have hf := (br_if hf).1 q63
          refine lv_goto (tgt := 259) hx hb dX11_isMiddle_66 (by decide) ?_
          exact wX11_isMiddle_259 X (fun hf hR hl => ih hf hR hl) (fun hf hR hl => hk257 hf hR hl) (fun hf hR hl => hk265 hf hR hl) hf hR (lv_sub hl [2, 3, 4, 5, 6, 7] rfl)
set_option maxHeartbeats 4000000 in
set_option maxRecDepth 100000 in
theorem wX11_isMiddle_257 {r : Int32} {M : Mem} (X : CX E p s m args c meth cX11_isMiddle 27 (some .boolean) RX11) : ∀ {H : Heap} {locs : List Loc} {ls : Array Slot}, fX11_isMiddle_257 M = some r → Rl E (sh_ b) (nn b) s.heap M H locs → lv_has ls 27 [] → W p l e (rm 3 0 0) s m args below meth c H locs 0 0 (MQ below (qq E (some (.int r)) (sh_ b) (nn b) M) args s 0 0 (fr E)) (F0 m 257 ls []) := by
  obtain ⟨hx, hb, hr, hml, hown, hts, hK, hN, hO, hlk, hbs⟩ := id X
  intro H locs ls hf hR hl
  unfold fX11_isMiddle_257 at hf
  refine lv_iconst (v := 0) hx hb dX11_isMiddle_257 (by decide) ?_
  cases hf
  exact x_zret hx hb hr hlk hR (by decide) dX11_isMiddle_258
set_option maxHeartbeats 4000000 in
set_option maxRecDepth 100000 in
theorem wX11_isMiddle_265 {r : Int32} {M : Mem} (X : CX E p s m args c meth cX11_isMiddle 27 (some .boolean) RX11) : ∀ {H : Heap} {locs : List Loc} {ls : Array Slot}, fX11_isMiddle_265 M = some r → Rl E (sh_ b) (nn b) s.heap M H locs → lv_has ls 27 [] → W p l e (rm 3 0 0) s m args below meth c H locs 0 0 (MQ below (qq E (some (.int r)) (sh_ b) (nn b) M) args s 0 0 (fr E)) (F0 m 265 ls []) := by
  obtain ⟨hx, hb, hr, hml, hown, hts, hK, hN, hO, hlk, hbs⟩ := id X
  intro H locs ls hf hR hl
  unfold fX11_isMiddle_265 at hf
  refine lv_iconst (v := 1) hx hb dX11_isMiddle_265 (by decide) ?_
  cases hf
  exact x_zret hx hb hr hlk hR (by decide) dX11_isMiddle_266
set_option maxHeartbeats 4000000 in
set_option maxRecDepth 100000 in
theorem wX11_isMiddle_0 {r : Int32} {M : Mem} (X : CX E p s m args c meth cX11_isMiddle 27 (some .boolean) RX11) : ∀ {y1 : Int64} {y3 : Int64} {y5 : Int64} {H : Heap} {locs : List Loc} {ls : Array Slot}, fX11_isMiddle M y1 y3 y5 = some r → Rl E (sh_ b) (nn b) s.heap M H locs → lv_has ls 27 [(0, .ref (eB E + 47)), (1, .long y1), (3, .long y3), (5, .long y5)] → W p l e (rm 3 0 0) s m args below meth c H locs 0 0 (MQ below (qq E (some (.int r)) (sh_ b) (nn b) M) args s 0 0 (fr E)) (F0 m 0 ls []) := by
  obtain ⟨hx, hb, hr, hml, hown, hts, hK, hN, hO, hlk, hbs⟩ := id X
  intro y1 y3 y5 H locs ls hf hR hl
  unfold fX11_isMiddle at hf
  refine lv_aload_n hx hb dX11_isMiddle_0 rfl (lv_at hl 0 rfl) ?_
  obtain ⟨q1, c1, hf⟩ := br_b hf
  refine x_callV (k := 47) (As := []) (rest := []) (st1 := [.int q1]) X hR (ctX11_total c1) ml_X11_266 im_X11_total se_X11_total in_X11 co_X11_total yo_X11_total rfl kX11 (z_47 b) (rm_ok (by decide) (by decide)) rfl hl.1 rfl rfl (Nat.le_of_ble_eq_true rfl) dX11_isMiddle_1 ⟨Nat.zero_le _, Nat.zero_le _⟩ (fun H locs hR => ?_)
  refine lv_istore (lv' := [(7, .int q1), (0, .ref (eB E + 47)), (1, .long y1), (3, .long y3), (5, .long y5)]) hx hb dX11_isMiddle_4 hl (by decide) rfl (fun ls hl => ?_)
  refine lv_iconst (v := 0) hx hb dX11_isMiddle_6 (by decide) ?_
  refine lv_istore (lv' := [(8, .int (0 : Int32)), (7, .int q1), (0, .ref (eB E + 47)), (1, .long y1), (3, .long y3), (5, .long y5)]) hx hb dX11_isMiddle_7 hl (by decide) rfl (fun ls hl => ?_)
  exact wX11_isMiddle_9 X (fun hf hR hl => wX11_isMiddle_257 X hf hR hl) (fun hf hR hl => wX11_isMiddle_265 X hf hR hl) FU hf hR (lv_sub hl [2, 3, 4, 5, 1, 0] rfl)
theorem ctX11_isMiddle {l : Launch} {E : Ge} {b : Bool} {M : Mem} {y1 : Int64} {y3 : Int64} {y5 : Int64} {r : Int32} (h : fX11_isMiddle M y1 y3 y5 = some r) : CT l E yX11_isMiddle cX11_isMiddle 27 (some .boolean) 3 0 0 [.ref (eB E + 47), .long y1, .long y3, .long y5] (some (.int r)) (sh_ b) (nn b) M (sh_ b) (nn b) M := by
  refine met_of (by decide) (Nat.le_of_ble_eq_true rfl) ?_
  intro p e s m args below meth c X _ hR ls hl
  exact wX11_isMiddle_0 X h hR hl
def fX11_isBehind_69 (M : Mem) (s0 : Int32) : Option Int32 := some (s0 &&& 1)
def fX11_isBehind (M : Mem) (x1 : Int32) (y2 : Int64) (y4 : Int64) (y6 : Int64) : Option Int32 := (if inb x1 5600 = true then (if inb x1 5600 = true then nx (((M.2 82 (ix x1)) * y6) - (y2 * (M.2 84 (ix x1)))) (fun v18 => (if (lg_cmp v18 (0 : Int64)) = 0 then (if inb x1 5600 = true then (if inb x1 5600 = true then (if (lg_cmp ((M.2 83 (ix x1)) * y6) (y4 * (M.2 84 (ix x1)))) ≤ 0 then fX11_isBehind_69 M (0 : Int32) else fX11_isBehind_69 M (1 : Int32)) else none) else none) else (if (lg_cmp v18 (0 : Int64)) ≤ 0 then fX11_isBehind_69 M (0 : Int32) else fX11_isBehind_69 M (1 : Int32)))) else none) else none)
set_option maxHeartbeats 4000000 in
set_option maxRecDepth 100000 in
theorem wX11_isBehind_69 {r : Int32} {M : Mem} (X : CX E p s m args c meth cX11_isBehind 10 (some .boolean) RX11) : ∀ {s0 : Int32} {H : Heap} {locs : List Loc} {ls : Array Slot}, fX11_isBehind_69 M s0 = some r → Rl E (sh_ b) (nn b) s.heap M H locs → lv_has ls 10 [] → W p l e (rm 1 0 0) s m args below meth c H locs 0 0 (MQ below (qq E (some (.int r)) (sh_ b) (nn b) M) args s 0 0 (fr E)) (F0 m 69 ls [.int s0]) := by
  obtain ⟨hx, hb, hr, hml, hown, hts, hK, hN, hO, hlk, hbs⟩ := id X
  intro s0 H locs ls hf hR hl
  unfold fX11_isBehind_69 at hf
  cases hf
  exact x_zret hx hb hr hlk hR rfl dX11_isBehind_69
set_option maxHeartbeats 4000000 in
set_option maxRecDepth 100000 in
theorem wX11_isBehind_0 {r : Int32} {M : Mem} (X : CX E p s m args c meth cX11_isBehind 10 (some .boolean) RX11) : ∀ {x1 : Int32} {y2 : Int64} {y4 : Int64} {y6 : Int64} {H : Heap} {locs : List Loc} {ls : Array Slot}, fX11_isBehind M x1 y2 y4 y6 = some r → Rl E (sh_ b) (nn b) s.heap M H locs → lv_has ls 10 [(0, .ref (eB E + 47)), (1, .int x1), (2, .long y2), (4, .long y4), (6, .long y6)] → W p l e (rm 1 0 0) s m args below meth c H locs 0 0 (MQ below (qq E (some (.int r)) (sh_ b) (nn b) M) args s 0 0 (fr E)) (F0 m 0 ls []) := by
  obtain ⟨hx, hb, hr, hml, hown, hts, hK, hN, hO, hlk, hbs⟩ := id X
  intro x1 y2 y4 y6 H locs ls hf hR hl
  unfold fX11_isBehind at hf
  refine lv_aload_n hx hb dX11_isBehind_0 rfl (lv_at hl 0 rfl) ?_
  refine x_get hx hb hown hts hK hR kX11 (z_47 b) (j := 30) (by decide) fl_X11_78 (v := .ref (eB E + 82)) rfl dX11_isBehind_1 ?_
  refine lv_iload_n hx hb dX11_isBehind_4 rfl (lv_at hl 1 rfl) ?_
  obtain ⟨g5, hf⟩ := br_g hf
  refine x_lald hx hb hK hR (z_82 b) g5 dX11_isBehind_5 ?_
  refine lv_lload hx hb dX11_isBehind_6 (lv_at hl 4 rfl) ?_
  refine lv_lmul hx hb dX11_isBehind_8 ?_
  refine lv_lload_n hx hb dX11_isBehind_9 rfl (lv_at hl 2 rfl) ?_
  refine lv_aload_n hx hb dX11_isBehind_10 rfl (lv_at hl 0 rfl) ?_
  refine x_get hx hb hown hts hK hR kX11 (z_47 b) (j := 32) (by decide) fl_X11_85 (v := .ref (eB E + 84)) rfl dX11_isBehind_11 ?_
  refine lv_iload_n hx hb dX11_isBehind_14 rfl (lv_at hl 1 rfl) ?_
  obtain ⟨g15, hf⟩ := br_g hf
  refine x_lald hx hb hK hR (z_84 b) g15 dX11_isBehind_15 ?_
  refine lv_lmul hx hb dX11_isBehind_16 ?_
  refine lv_lsub hx hb dX11_isBehind_17 ?_
  refine lv_topl (fun v18 e18 => ?_)
  have hf := nx_at e18 hf
  refine lv_lstore (lv' := [(8, .long v18), (0, .ref (eB E + 47)), (1, .int x1), (2, .long y2), (4, .long y4), (6, .long y6)]) hx hb dX11_isBehind_18 hl (by decide) rfl (fun ls hl => ?_)
  refine lv_lload hx hb dX11_isBehind_20 (lv_at hl 0 rfl) ?_
  refine lv_lconst (v := 0) hx hb dX11_isBehind_22 (by decide) ?_
  refine W.lcmp hx hb dX11_isBehind_23 ?_
  refine lv_if_eq (tgt := 42) hx hb dX11_isBehind_24 (by decide) (fun q24 => ?_) (fun q24 => ?_)
  · have hf := (br_if hf).1 q24
    refine lv_aload_n hx hb dX11_isBehind_42 rfl (lv_at hl 1 rfl) ?_
    refine x_get hx hb hown hts hK hR kX11 (z_47 b) (j := 31) (by decide) fl_X11_82 (v := .ref (eB E + 83)) rfl dX11_isBehind_43 ?_
    refine lv_iload_n hx hb dX11_isBehind_46 rfl (lv_at hl 2 rfl) ?_
    obtain ⟨g47, hf⟩ := br_g hf
    refine x_lald hx hb hK hR (z_83 b) g47 dX11_isBehind_47 ?_
    refine lv_lload hx hb dX11_isBehind_48 (lv_at hl 5 rfl) ?_
    refine lv_lmul hx hb dX11_isBehind_50 ?_
    refine lv_lload hx hb dX11_isBehind_51 (lv_at hl 4 rfl) ?_
    refine lv_aload_n hx hb dX11_isBehind_53 rfl (lv_at hl 1 rfl) ?_
    refine x_get hx hb hown hts hK hR kX11 (z_47 b) (j := 32) (by decide) fl_X11_85 (v := .ref (eB E + 84)) rfl dX11_isBehind_54 ?_
    refine lv_iload_n hx hb dX11_isBehind_57 rfl (lv_at hl 2 rfl) ?_
    obtain ⟨g58, hf⟩ := br_g hf
    refine x_lald hx hb hK hR (z_84 b) g58 dX11_isBehind_58 ?_
    refine lv_lmul hx hb dX11_isBehind_59 ?_
    refine W.lcmp hx hb dX11_isBehind_60 ?_
    refine lv_if_le (tgt := 68) hx hb dX11_isBehind_61 (by decide) (fun q61 => ?_) (fun q61 => ?_)
    · have hf := (br_if hf).1 q61
      refine lv_iconst (v := 0) hx hb dX11_isBehind_68 (by decide) ?_
      exact wX11_isBehind_69 X hf hR (lv_sub hl [] rfl)
    · have hf := (br_if hf).2 q61
      refine lv_iconst (v := 1) hx hb dX11_isBehind_64 (by decide) ?_
      refine lv_goto (tgt := 69) hx hb dX11_isBehind_65 (by decide) ?_
      exact wX11_isBehind_69 X hf hR (lv_sub hl [] rfl)
  · have hf := (br_if hf).2 q24
    refine lv_lload hx hb dX11_isBehind_27 (lv_at hl 0 rfl) ?_
    refine lv_lconst (v := 0) hx hb dX11_isBehind_29 (by decide) ?_
    refine W.lcmp hx hb dX11_isBehind_30 ?_
    refine lv_if_le (tgt := 38) hx hb dX11_isBehind_31 (by decide) (fun q31 => ?_) (fun q31 => ?_)
    · have hf := (br_if hf).1 q31
      refine lv_iconst (v := 0) hx hb dX11_isBehind_38 (by decide) ?_
      refine lv_goto (tgt := 69) hx hb dX11_isBehind_39 (by decide) ?_
      exact wX11_isBehind_69 X hf hR (lv_sub hl [] rfl)
    · have hf := (br_if hf).2 q31
      refine lv_iconst (v := 1) hx hb dX11_isBehind_34 (by decide) ?_
      refine lv_goto (tgt := 69) hx hb dX11_isBehind_35 (by decide) ?_
      exact wX11_isBehind_69 X hf hR (lv_sub hl [] rfl)
theorem ctX11_isBehind {l : Launch} {E : Ge} {b : Bool} {M : Mem} {x1 : Int32} {y2 : Int64} {y4 : Int64} {y6 : Int64} {r : Int32} (h : fX11_isBehind M x1 y2 y4 y6 = some r) : CT l E yX11_isBehind cX11_isBehind 10 (some .boolean) 1 0 0 [.ref (eB E + 47), .int x1, .long y2, .long y4, .long y6] (some (.int r)) (sh_ b) (nn b) M (sh_ b) (nn b) M := by
  refine met_of (by decide) (Nat.le_of_ble_eq_true rfl) ?_
  intro p e s m args below meth c X _ hR ls hl
  exact wX11_isBehind_0 X h hR hl
def fX11_addsMiddle_100 (k51 : Int64 → Int64 → Int64 → Int32 → Mem → Option Mem) (k99 : Mem → Option Mem) (k106 : Int64 → Int64 → Int64 → Mem → Option Mem) (y9 : Int64) (y11 : Int64) (y13 : Int64) (x15 : Int32) (M : Mem) : Option Mem := nx (x15 + (1 : Int32)) (fun v100 => k51 y9 y11 y13 v100 M)
def fX11_addsMiddle_51 (k99 : Mem → Option Mem) (k106 : Int64 → Int64 → Int64 → Mem → Option Mem) : Nat → Int64 → Int64 → Int64 → Int32 → Mem → Option Mem
  | 0, _, _, _, _, _ => none
  | n + 1, y9, y11, y13, x15, M => (if (M.1 47 28) ≤ x15 then k106 y9 y11 y13 M else (if inb x15 5600 = true then (if (lg_cmp (M.2 82 (ix x15)) y9) = 0 then (if inb x15 5600 = true then (if (lg_cmp (M.2 83 (ix x15)) y11) = 0 then (if inb x15 5600 = true then (if (lg_cmp (M.2 84 (ix x15)) y13) = 0 then k99 M else fX11_addsMiddle_100 (fX11_addsMiddle_51 k99 k106 n) k99 k106 y9 y11 y13 x15 M) else none) else fX11_addsMiddle_100 (fX11_addsMiddle_51 k99 k106 n) k99 k106 y9 y11 y13 x15 M) else none) else fX11_addsMiddle_100 (fX11_addsMiddle_51 k99 k106 n) k99 k106 y9 y11 y13 x15 M) else none))
def fX11_addsMiddle_99 (M : Mem) : Option Mem := some M
def fX11_addsMiddle_126 (k202 : Int64 → Int64 → Int64 → Int32 → Mem → Option Mem) : Nat → Int64 → Int64 → Int64 → Int32 → Mem → Option Mem
  | 0, _, _, _, _, _ => none
  | n + 1, y9, y11, y13, x15, M => (if x15 ≤ 0 then k202 y9 y11 y13 x15 M else (fX11_isBehind M (x15 - (1 : Int32)) y9 y11 y13).bind (fun q142 => (if q142 = 0 then k202 y9 y11 y13 x15 M else (if inb (x15 - (1 : Int32)) 5600 = true then (if inb x15 5600 = true then nx (sL M 82 (ix x15) (M.2 82 (ix (x15 - (1 : Int32))))) (fun M163 => (if inb (x15 - (1 : Int32)) 5600 = true then (if inb x15 5600 = true then nx (sL M163 83 (ix x15) (M163.2 83 (ix (x15 - (1 : Int32))))) (fun M179 => (if inb (x15 - (1 : Int32)) 5600 = true then (if inb x15 5600 = true then nx (sL M179 84 (ix x15) (M179.2 84 (ix (x15 - (1 : Int32))))) (fun M195 => nx (x15 + (-1 : Int32)) (fun v196 => fX11_addsMiddle_126 k202 n y9 y11 y13 v196 M195)) else none) else none)) else none) else none)) else none) else none))))
def fX11_addsMiddle_202 (y9 : Int64) (y11 : Int64) (y13 : Int64) (x15 : Int32) (M : Mem) : Option Mem := (if inb x15 5600 = true then nx (sL M 82 (ix x15) y9) (fun M210 => (if inb x15 5600 = true then nx (sL M210 83 (ix x15) y11) (fun M219 => (if inb x15 5600 = true then nx (sL M219 84 (ix x15) y13) (fun M228 => nx (sI M228 47 28 ((M228.1 47 28) + (1 : Int32))) (fun M236 => some M236)) else none)) else none)) else none)
def fX11_addsMiddle_106 (y9 : Int64) (y11 : Int64) (y13 : Int64) (M : Mem) : Option Mem := (fX11_isMiddle M y9 y11 y13).bind (fun q113 => (if q113 = 0 then some M else nx (M.1 47 28) (fun v124 => fX11_addsMiddle_126 fX11_addsMiddle_202 FU y9 y11 y13 v124 M)))
def fX11_addsMiddle_27 (y1 : Int64) (y3 : Int64) (y5 : Int64) (t0 : Int64) (M : Mem) : Option Mem := (if ¬ t0 = 0 then nx (y1 / t0) (fun v33 => (if ¬ t0 = 0 then nx (y3 / t0) (fun v39 => (if ¬ t0 = 0 then nx (y5 / t0) (fun v46 => fX11_addsMiddle_51 fX11_addsMiddle_99 fX11_addsMiddle_106 FU v33 v39 v46 (0 : Int32) M) else none)) else none)) else none)
def fX11_addsMiddle (y1 : Int64) (y3 : Int64) (y5 : Int64) (M : Mem) : Option Mem := (fX11_gcd M y1 y3).bind (fun q2 => (fX11_gcd M q2 y5).bind (fun q7 => (if 0 ≤ (lg_cmp y5 (0 : Int64)) then fX11_addsMiddle_27 y1 y3 y5 q7 M else fX11_addsMiddle_27 y1 y3 y5 ((-q7)) M)))
set_option maxHeartbeats 4000000 in
set_option maxRecDepth 100000 in
theorem wX11_addsMiddle_100 {M1 : Mem} {k51 : Int64 → Int64 → Int64 → Int32 → Mem → Option Mem} {k99 : Mem → Option Mem} {k106 : Int64 → Int64 → Int64 → Mem → Option Mem} (X : CX E p s m args c meth cX11_addsMiddle 16 none RX11) (hk51 : ∀ {y9 : Int64} {y11 : Int64} {y13 : Int64} {x15 : Int32} {M : Mem} {H : Heap} {locs : List Loc} {ls : Array Slot}, k51 y9 y11 y13 x15 M = some M1 → Rl E (sh_ b) (nn b) s.heap M H locs → lv_has ls 16 [(0, .ref (eB E + 47)), (9, .long y9), (11, .long y11), (13, .long y13), (15, .int x15)] → W p l e (rm 4 0 0) s m args below meth c H locs 0 0 (MQ below (qq E none (sh_ b) (nn b) M1) args s 0 0 (fr E)) (F0 m 51 ls [])) (hk99 : ∀ {M : Mem} {H : Heap} {locs : List Loc} {ls : Array Slot}, k99 M = some M1 → Rl E (sh_ b) (nn b) s.heap M H locs → lv_has ls 16 [] → W p l e (rm 4 0 0) s m args below meth c H locs 0 0 (MQ below (qq E none (sh_ b) (nn b) M1) args s 0 0 (fr E)) (F0 m 99 ls [])) (hk106 : ∀ {y9 : Int64} {y11 : Int64} {y13 : Int64} {M : Mem} {H : Heap} {locs : List Loc} {ls : Array Slot}, k106 y9 y11 y13 M = some M1 → Rl E (sh_ b) (nn b) s.heap M H locs → lv_has ls 16 [(0, .ref (eB E + 47)), (9, .long y9), (11, .long y11), (13, .long y13)] → W p l e (rm 4 0 0) s m args below meth c H locs 0 0 (MQ below (qq E none (sh_ b) (nn b) M1) args s 0 0 (fr E)) (F0 m 106 ls [])) : ∀ {y9 : Int64} {y11 : Int64} {y13 : Int64} {x15 : Int32} {M : Mem} {H : Heap} {locs : List Loc} {ls : Array Slot}, fX11_addsMiddle_100 k51 k99 k106 y9 y11 y13 x15 M = some M1 → Rl E (sh_ b) (nn b) s.heap M H locs → lv_has ls 16 [(0, .ref (eB E + 47)), (9, .long y9), (11, .long y11), (13, .long y13), (15, .int x15)] → W p l e (rm 4 0 0) s m args below meth c H locs 0 0 (MQ below (qq E none (sh_ b) (nn b) M1) args s 0 0 (fr E)) (F0 m 100 ls []) := by
  obtain ⟨hx, hb, hr, hml, hown, hts, hK, hN, hO, hlk, hbs⟩ := id X
  intro y9 y11 y13 x15 M H locs ls hf hR hl
  unfold fX11_addsMiddle_100 at hf
  obtain ⟨v100, e100⟩ : ∃ y : Int32, y = (x15 + (1 : Int32)) := ⟨_, rfl⟩
  have hf := nx_at e100 hf
  refine lv_iinc (v := v100) (lv' := [(15, .int v100), (0, .ref (eB E + 47)), (9, .long y9), (11, .long y11), (13, .long y13)]) hx hb dX11_addsMiddle_100 hl (k := 4) rfl (by rw [e100]; rfl) (by decide) rfl (fun ls hl => ?_)
  refine lv_goto (tgt := 51) hx hb dX11_addsMiddle_103 (by decide) ?_
  exact hk51 hf hR (lv_sub hl [1, 2, 3, 4, 0] rfl)
set_option maxHeartbeats 4000000 in
set_option maxRecDepth 100000 in
theorem wX11_addsMiddle_51 {M1 : Mem} {k99 : Mem → Option Mem} {k106 : Int64 → Int64 → Int64 → Mem → Option Mem} (X : CX E p s m args c meth cX11_addsMiddle 16 none RX11) (hk99 : ∀ {M : Mem} {H : Heap} {locs : List Loc} {ls : Array Slot}, k99 M = some M1 → Rl E (sh_ b) (nn b) s.heap M H locs → lv_has ls 16 [] → W p l e (rm 4 0 0) s m args below meth c H locs 0 0 (MQ below (qq E none (sh_ b) (nn b) M1) args s 0 0 (fr E)) (F0 m 99 ls [])) (hk106 : ∀ {y9 : Int64} {y11 : Int64} {y13 : Int64} {M : Mem} {H : Heap} {locs : List Loc} {ls : Array Slot}, k106 y9 y11 y13 M = some M1 → Rl E (sh_ b) (nn b) s.heap M H locs → lv_has ls 16 [(0, .ref (eB E + 47)), (9, .long y9), (11, .long y11), (13, .long y13)] → W p l e (rm 4 0 0) s m args below meth c H locs 0 0 (MQ below (qq E none (sh_ b) (nn b) M1) args s 0 0 (fr E)) (F0 m 106 ls [])) : ∀ (n : Nat) {y9 : Int64} {y11 : Int64} {y13 : Int64} {x15 : Int32} {M : Mem} {H : Heap} {locs : List Loc} {ls : Array Slot}, fX11_addsMiddle_51 k99 k106 n y9 y11 y13 x15 M = some M1 → Rl E (sh_ b) (nn b) s.heap M H locs → lv_has ls 16 [(0, .ref (eB E + 47)), (9, .long y9), (11, .long y11), (13, .long y13), (15, .int x15)] → W p l e (rm 4 0 0) s m args below meth c H locs 0 0 (MQ below (qq E none (sh_ b) (nn b) M1) args s 0 0 (fr E)) (F0 m 51 ls []) := by
  obtain ⟨hx, hb, hr, hml, hown, hts, hK, hN, hO, hlk, hbs⟩ := id X
  intro n
  induction n with
  | zero =>
    intro y9 y11 y13 x15 M H locs ls hf hR hl
    exact absurd (show none = some _ from hf) (fun h => by cases h)
  | succ n ih =>
    intro y9 y11 y13 x15 M H locs ls hf hR hl
    rw [fX11_addsMiddle_51] at hf
    refine lv_iload hx hb dX11_addsMiddle_51 (lv_at hl 4 rfl) ?_
    refine lv_aload_n hx hb dX11_addsMiddle_53 rfl (lv_at hl 0 rfl) ?_
    refine x_get hx hb hown hts hK hR kX11 (z_47 b) (j := 28) (by decide) fl_X11_317 (v := .int (M.1 47 28)) rfl dX11_addsMiddle_54 ?_
    refine lv_icmp_ge (tgt := 106) hx hb dX11_addsMiddle_57 (by decide) (fun q57 => ?_) (fun q57 => ?_)
    · have hf := (br_if hf).1 q57
      exact hk106 hf hR (lv_sub hl [0, 1, 2, 3] rfl)
    · have hf := (br_if hf).2 q57
      refine lv_aload_n hx hb dX11_addsMiddle_60 rfl (lv_at hl 0 rfl) ?_
      refine x_get hx hb hown hts hK hR kX11 (z_47 b) (j := 30) (by decide) fl_X11_78 (v := .ref (eB E + 82)) rfl dX11_addsMiddle_61 ?_
      refine lv_iload hx hb dX11_addsMiddle_64 (lv_at hl 4 rfl) ?_
      obtain ⟨g66, hf⟩ := br_g hf
      refine x_lald hx hb hK hR (z_82 b) g66 dX11_addsMiddle_66 ?_
      refine lv_lload hx hb dX11_addsMiddle_67 (lv_at hl 1 rfl) ?_
      refine W.lcmp hx hb dX11_addsMiddle_69 ?_
      refine lv_if_ne (tgt := 100) hx hb dX11_addsMiddle_70 (by decide) (fun q70 => ?_) (fun q70 => ?_)
      · have hf := (br_if hf).2 q70
        exact wX11_addsMiddle_100 X (fun hf hR hl => ih hf hR hl) (fun hf hR hl => hk99 hf hR hl) (fun hf hR hl => hk106 hf hR hl) hf hR hl
      · have hf := (br_if hf).1 q70
        refine lv_aload_n hx hb dX11_addsMiddle_73 rfl (lv_at hl 0 rfl) ?_
        refine x_get hx hb hown hts hK hR kX11 (z_47 b) (j := 31) (by decide) fl_X11_82 (v := .ref (eB E + 83)) rfl dX11_addsMiddle_74 ?_
        refine lv_iload hx hb dX11_addsMiddle_77 (lv_at hl 4 rfl) ?_
        obtain ⟨g79, hf⟩ := br_g hf
        refine x_lald hx hb hK hR (z_83 b) g79 dX11_addsMiddle_79 ?_
        refine lv_lload hx hb dX11_addsMiddle_80 (lv_at hl 2 rfl) ?_
        refine W.lcmp hx hb dX11_addsMiddle_82 ?_
        refine lv_if_ne (tgt := 100) hx hb dX11_addsMiddle_83 (by decide) (fun q83 => ?_) (fun q83 => ?_)
        · have hf := (br_if hf).2 q83
          exact wX11_addsMiddle_100 X (fun hf hR hl => ih hf hR hl) (fun hf hR hl => hk99 hf hR hl) (fun hf hR hl => hk106 hf hR hl) hf hR hl
        · have hf := (br_if hf).1 q83
          refine lv_aload_n hx hb dX11_addsMiddle_86 rfl (lv_at hl 0 rfl) ?_
          refine x_get hx hb hown hts hK hR kX11 (z_47 b) (j := 32) (by decide) fl_X11_85 (v := .ref (eB E + 84)) rfl dX11_addsMiddle_87 ?_
          refine lv_iload hx hb dX11_addsMiddle_90 (lv_at hl 4 rfl) ?_
          obtain ⟨g92, hf⟩ := br_g hf
          refine x_lald hx hb hK hR (z_84 b) g92 dX11_addsMiddle_92 ?_
          refine lv_lload hx hb dX11_addsMiddle_93 (lv_at hl 3 rfl) ?_
          refine W.lcmp hx hb dX11_addsMiddle_95 ?_
          refine lv_if_ne (tgt := 100) hx hb dX11_addsMiddle_96 (by decide) (fun q96 => ?_) (fun q96 => ?_)
          · have hf := (br_if hf).2 q96
            exact wX11_addsMiddle_100 X (fun hf hR hl => ih hf hR hl) (fun hf hR hl => hk99 hf hR hl) (fun hf hR hl => hk106 hf hR hl) hf hR hl
          · have hf := (br_if hf).1 q96
            exact hk99 hf hR (lv_sub hl [] rfl)
set_option maxHeartbeats 4000000 in
set_option maxRecDepth 100000 in
theorem wX11_addsMiddle_99 {M1 : Mem} (X : CX E p s m args c meth cX11_addsMiddle 16 none RX11) : ∀ {M : Mem} {H : Heap} {locs : List Loc} {ls : Array Slot}, fX11_addsMiddle_99 M = some M1 → Rl E (sh_ b) (nn b) s.heap M H locs → lv_has ls 16 [] → W p l e (rm 4 0 0) s m args below meth c H locs 0 0 (MQ below (qq E none (sh_ b) (nn b) M1) args s 0 0 (fr E)) (F0 m 99 ls []) := by
  obtain ⟨hx, hb, hr, hml, hown, hts, hK, hN, hO, hlk, hbs⟩ := id X
  intro M H locs ls hf hR hl
  unfold fX11_addsMiddle_99 at hf
  cases hf
  exact x_vret hx hb hr hlk hR dX11_addsMiddle_99
set_option maxHeartbeats 4000000 in
set_option maxRecDepth 100000 in
theorem wX11_addsMiddle_126 {M1 : Mem} {k202 : Int64 → Int64 → Int64 → Int32 → Mem → Option Mem} (X : CX E p s m args c meth cX11_addsMiddle 16 none RX11) (hk202 : ∀ {y9 : Int64} {y11 : Int64} {y13 : Int64} {x15 : Int32} {M : Mem} {H : Heap} {locs : List Loc} {ls : Array Slot}, k202 y9 y11 y13 x15 M = some M1 → Rl E (sh_ b) (nn b) s.heap M H locs → lv_has ls 16 [(0, .ref (eB E + 47)), (9, .long y9), (11, .long y11), (13, .long y13), (15, .int x15)] → W p l e (rm 4 0 0) s m args below meth c H locs 0 0 (MQ below (qq E none (sh_ b) (nn b) M1) args s 0 0 (fr E)) (F0 m 202 ls [])) : ∀ (n : Nat) {y9 : Int64} {y11 : Int64} {y13 : Int64} {x15 : Int32} {M : Mem} {H : Heap} {locs : List Loc} {ls : Array Slot}, fX11_addsMiddle_126 k202 n y9 y11 y13 x15 M = some M1 → Rl E (sh_ b) (nn b) s.heap M H locs → lv_has ls 16 [(0, .ref (eB E + 47)), (9, .long y9), (11, .long y11), (13, .long y13), (15, .int x15)] → W p l e (rm 4 0 0) s m args below meth c H locs 0 0 (MQ below (qq E none (sh_ b) (nn b) M1) args s 0 0 (fr E)) (F0 m 126 ls []) := by
  obtain ⟨hx, hb, hr, hml, hown, hts, hK, hN, hO, hlk, hbs⟩ := id X
  intro n
  induction n with
  | zero =>
    intro y9 y11 y13 x15 M H locs ls hf hR hl
    exact absurd (show none = some _ from hf) (fun h => by cases h)
  | succ n ih =>
    intro y9 y11 y13 x15 M H locs ls hf hR hl
    rw [fX11_addsMiddle_126] at hf
    refine lv_iload hx hb dX11_addsMiddle_126 (lv_at hl 4 rfl) ?_
    refine lv_if_le (tgt := 202) hx hb dX11_addsMiddle_128 (by decide) (fun q128 => ?_) (fun q128 => ?_)
    · have hf := (br_if hf).1 q128
      exact hk202 hf hR hl
    · have hf := (br_if hf).2 q128
      refine lv_aload_n hx hb dX11_addsMiddle_131 rfl (lv_at hl 0 rfl) ?_
      refine lv_iload hx hb dX11_addsMiddle_132 (lv_at hl 4 rfl) ?_
      refine lv_iconst (v := 1) hx hb dX11_addsMiddle_134 (by decide) ?_
      refine lv_isub hx hb dX11_addsMiddle_135 ?_
      refine lv_lload hx hb dX11_addsMiddle_136 (lv_at hl 1 rfl) ?_
      refine lv_lload hx hb dX11_addsMiddle_138 (lv_at hl 2 rfl) ?_
      refine lv_lload hx hb dX11_addsMiddle_140 (lv_at hl 3 rfl) ?_
      obtain ⟨q142, c142, hf⟩ := br_b hf
      refine x_callV (k := 47) (As := [.int (x15 - (1 : Int32)), .long y9, .long y11, .long y13]) (rest := []) (st1 := [.int q142]) X hR (ctX11_isBehind c142) ml_X11_323 im_X11_isBehind se_X11_isBehind in_X11 co_X11_isBehind yo_X11_isBehind rfl kX11 (z_47 b) (rm_ok (by decide) (by decide)) rfl hl.1 rfl rfl (Nat.le_of_ble_eq_true rfl) dX11_addsMiddle_142 ⟨Nat.zero_le _, Nat.zero_le _⟩ (fun H locs hR => ?_)
      refine lv_if_eq (tgt := 202) hx hb dX11_addsMiddle_145 (by decide) (fun q145 => ?_) (fun q145 => ?_)
      · have hf := (br_if hf).1 q145
        exact hk202 hf hR hl
      · have hf := (br_if hf).2 q145
        refine lv_aload_n hx hb dX11_addsMiddle_148 rfl (lv_at hl 0 rfl) ?_
        refine x_get hx hb hown hts hK hR kX11 (z_47 b) (j := 30) (by decide) fl_X11_78 (v := .ref (eB E + 82)) rfl dX11_addsMiddle_149 ?_
        refine lv_iload hx hb dX11_addsMiddle_152 (lv_at hl 4 rfl) ?_
        refine lv_aload_n hx hb dX11_addsMiddle_154 rfl (lv_at hl 0 rfl) ?_
        refine x_get hx hb hown hts hK hR kX11 (z_47 b) (j := 30) (by decide) fl_X11_78 (v := .ref (eB E + 82)) rfl dX11_addsMiddle_155 ?_
        refine lv_iload hx hb dX11_addsMiddle_158 (lv_at hl 4 rfl) ?_
        refine lv_iconst (v := 1) hx hb dX11_addsMiddle_160 (by decide) ?_
        refine lv_isub hx hb dX11_addsMiddle_161 ?_
        obtain ⟨g162, hf⟩ := br_g hf
        refine x_lald hx hb hK hR (z_82 b) g162 dX11_addsMiddle_162 ?_
        obtain ⟨g163, hf⟩ := br_g hf
        refine x_last hx hb hK hR (z_82 b) g163 dX11_addsMiddle_163 (fun H locs hR => ?_)
        obtain ⟨M163, e163⟩ : ∃ y : Mem, y = (sL M 82 (ix x15) (M.2 82 (ix (x15 - (1 : Int32))))) := ⟨_, rfl⟩
        have hf := nx_at e163 hf
        have hR : Rl E (sh_ b) (nn b) s.heap M163 H locs := by rw [e163]; exact hR
        refine lv_aload_n hx hb dX11_addsMiddle_164 rfl (lv_at hl 0 rfl) ?_
        refine x_get hx hb hown hts hK hR kX11 (z_47 b) (j := 31) (by decide) fl_X11_82 (v := .ref (eB E + 83)) rfl dX11_addsMiddle_165 ?_
        refine lv_iload hx hb dX11_addsMiddle_168 (lv_at hl 4 rfl) ?_
        refine lv_aload_n hx hb dX11_addsMiddle_170 rfl (lv_at hl 0 rfl) ?_
        refine x_get hx hb hown hts hK hR kX11 (z_47 b) (j := 31) (by decide) fl_X11_82 (v := .ref (eB E + 83)) rfl dX11_addsMiddle_171 ?_
        refine lv_iload hx hb dX11_addsMiddle_174 (lv_at hl 4 rfl) ?_
        refine lv_iconst (v := 1) hx hb dX11_addsMiddle_176 (by decide) ?_
        refine lv_isub hx hb dX11_addsMiddle_177 ?_
        obtain ⟨g178, hf⟩ := br_g hf
        refine x_lald hx hb hK hR (z_83 b) g178 dX11_addsMiddle_178 ?_
        obtain ⟨g179, hf⟩ := br_g hf
        refine x_last hx hb hK hR (z_83 b) g179 dX11_addsMiddle_179 (fun H locs hR => ?_)
        obtain ⟨M179, e179⟩ : ∃ y : Mem, y = (sL M163 83 (ix x15) (M163.2 83 (ix (x15 - (1 : Int32))))) := ⟨_, rfl⟩
        have hf := nx_at e179 hf
        have hR : Rl E (sh_ b) (nn b) s.heap M179 H locs := by rw [e179]; exact hR
        refine lv_aload_n hx hb dX11_addsMiddle_180 rfl (lv_at hl 0 rfl) ?_
        refine x_get hx hb hown hts hK hR kX11 (z_47 b) (j := 32) (by decide) fl_X11_85 (v := .ref (eB E + 84)) rfl dX11_addsMiddle_181 ?_
        refine lv_iload hx hb dX11_addsMiddle_184 (lv_at hl 4 rfl) ?_
        refine lv_aload_n hx hb dX11_addsMiddle_186 rfl (lv_at hl 0 rfl) ?_
        refine x_get hx hb hown hts hK hR kX11 (z_47 b) (j := 32) (by decide) fl_X11_85 (v := .ref (eB E + 84)) rfl dX11_addsMiddle_187 ?_
        refine lv_iload hx hb dX11_addsMiddle_190 (lv_at hl 4 rfl) ?_
        refine lv_iconst (v := 1) hx hb dX11_addsMiddle_192 (by decide) ?_
        refine lv_isub hx hb dX11_addsMiddle_193 ?_
        obtain ⟨g194, hf⟩ := br_g hf
        refine x_lald hx hb hK hR (z_84 b) g194 dX11_addsMiddle_194 ?_
        obtain ⟨g195, hf⟩ := br_g hf
        refine x_last hx hb hK hR (z_84 b) g195 dX11_addsMiddle_195 (fun H locs hR => ?_)
        obtain ⟨M195, e195⟩ : ∃ y : Mem, y = (sL M179 84 (ix x15) (M179.2 84 (ix (x15 - (1 : Int32))))) := ⟨_, rfl⟩
        have hf := nx_at e195 hf
        have hR : Rl E (sh_ b) (nn b) s.heap M195 H locs := by rw [e195]; exact hR
        obtain ⟨v196, e196⟩ : ∃ y : Int32, y = (x15 + (-1 : Int32)) := ⟨_, rfl⟩
        have hf := nx_at e196 hf
        refine lv_iinc (v := v196) (lv' := [(15, .int v196), (0, .ref (eB E + 47)), (9, .long y9), (11, .long y11), (13, .long y13)]) hx hb dX11_addsMiddle_196 hl (k := 4) rfl (by rw [e196]; rfl) (by decide) rfl (fun ls hl => ?_)
        refine lv_goto (tgt := 126) hx hb dX11_addsMiddle_199 (by decide) ?_
        exact ih hf hR (lv_sub hl [1, 2, 3, 4, 0] rfl)
set_option maxHeartbeats 4000000 in
set_option maxRecDepth 100000 in
theorem wX11_addsMiddle_202 {M1 : Mem} (X : CX E p s m args c meth cX11_addsMiddle 16 none RX11) : ∀ {y9 : Int64} {y11 : Int64} {y13 : Int64} {x15 : Int32} {M : Mem} {H : Heap} {locs : List Loc} {ls : Array Slot}, fX11_addsMiddle_202 y9 y11 y13 x15 M = some M1 → Rl E (sh_ b) (nn b) s.heap M H locs → lv_has ls 16 [(0, .ref (eB E + 47)), (9, .long y9), (11, .long y11), (13, .long y13), (15, .int x15)] → W p l e (rm 4 0 0) s m args below meth c H locs 0 0 (MQ below (qq E none (sh_ b) (nn b) M1) args s 0 0 (fr E)) (F0 m 202 ls []) := by
  obtain ⟨hx, hb, hr, hml, hown, hts, hK, hN, hO, hlk, hbs⟩ := id X
  intro y9 y11 y13 x15 M H locs ls hf hR hl
  unfold fX11_addsMiddle_202 at hf
  refine lv_aload_n hx hb dX11_addsMiddle_202 rfl (lv_at hl 0 rfl) ?_
  refine x_get hx hb hown hts hK hR kX11 (z_47 b) (j := 30) (by decide) fl_X11_78 (v := .ref (eB E + 82)) rfl dX11_addsMiddle_203 ?_
  refine lv_iload hx hb dX11_addsMiddle_206 (lv_at hl 4 rfl) ?_
  refine lv_lload hx hb dX11_addsMiddle_208 (lv_at hl 1 rfl) ?_
  obtain ⟨g210, hf⟩ := br_g hf
  refine x_last hx hb hK hR (z_82 b) g210 dX11_addsMiddle_210 (fun H locs hR => ?_)
  obtain ⟨M210, e210⟩ : ∃ y : Mem, y = (sL M 82 (ix x15) y9) := ⟨_, rfl⟩
  have hf := nx_at e210 hf
  have hR : Rl E (sh_ b) (nn b) s.heap M210 H locs := by rw [e210]; exact hR
  refine lv_aload_n hx hb dX11_addsMiddle_211 rfl (lv_at hl 0 rfl) ?_
  refine x_get hx hb hown hts hK hR kX11 (z_47 b) (j := 31) (by decide) fl_X11_82 (v := .ref (eB E + 83)) rfl dX11_addsMiddle_212 ?_
  refine lv_iload hx hb dX11_addsMiddle_215 (lv_at hl 4 rfl) ?_
  refine lv_lload hx hb dX11_addsMiddle_217 (lv_at hl 2 rfl) ?_
  obtain ⟨g219, hf⟩ := br_g hf
  refine x_last hx hb hK hR (z_83 b) g219 dX11_addsMiddle_219 (fun H locs hR => ?_)
  obtain ⟨M219, e219⟩ : ∃ y : Mem, y = (sL M210 83 (ix x15) y11) := ⟨_, rfl⟩
  have hf := nx_at e219 hf
  have hR : Rl E (sh_ b) (nn b) s.heap M219 H locs := by rw [e219]; exact hR
  refine lv_aload_n hx hb dX11_addsMiddle_220 rfl (lv_at hl 0 rfl) ?_
  refine x_get hx hb hown hts hK hR kX11 (z_47 b) (j := 32) (by decide) fl_X11_85 (v := .ref (eB E + 84)) rfl dX11_addsMiddle_221 ?_
  refine lv_iload hx hb dX11_addsMiddle_224 (lv_at hl 4 rfl) ?_
  refine lv_lload hx hb dX11_addsMiddle_226 (lv_at hl 3 rfl) ?_
  obtain ⟨g228, hf⟩ := br_g hf
  refine x_last hx hb hK hR (z_84 b) g228 dX11_addsMiddle_228 (fun H locs hR => ?_)
  obtain ⟨M228, e228⟩ : ∃ y : Mem, y = (sL M219 84 (ix x15) y13) := ⟨_, rfl⟩
  have hf := nx_at e228 hf
  have hR : Rl E (sh_ b) (nn b) s.heap M228 H locs := by rw [e228]; exact hR
  refine lv_aload_n hx hb dX11_addsMiddle_229 rfl (lv_at hl 0 rfl) ?_
  refine lv_dup hx hb dX11_addsMiddle_230 rfl ?_
  refine x_get hx hb hown hts hK hR kX11 (z_47 b) (j := 28) (by decide) fl_X11_317 (v := .int (M228.1 47 28)) rfl dX11_addsMiddle_231 ?_
  refine lv_iconst (v := 1) hx hb dX11_addsMiddle_234 (by decide) ?_
  refine lv_iadd hx hb dX11_addsMiddle_235 ?_
  refine x_puti hx hb hown hts hK hR kX11 (z_47 b) (j := 28) (by decide) fl_X11_317 rfl rfl rfl rfl dX11_addsMiddle_236 (fun H locs hR => ?_)
  obtain ⟨M236, e236⟩ : ∃ y : Mem, y = (sI M228 47 28 ((M228.1 47 28) + (1 : Int32))) := ⟨_, rfl⟩
  have hf := nx_at e236 hf
  have hR : Rl E (sh_ b) (nn b) s.heap M236 H locs := by rw [e236]; exact hR
  cases hf
  exact x_vret hx hb hr hlk hR dX11_addsMiddle_239
set_option maxHeartbeats 4000000 in
set_option maxRecDepth 100000 in
theorem wX11_addsMiddle_106 {M1 : Mem} (X : CX E p s m args c meth cX11_addsMiddle 16 none RX11) : ∀ {y9 : Int64} {y11 : Int64} {y13 : Int64} {M : Mem} {H : Heap} {locs : List Loc} {ls : Array Slot}, fX11_addsMiddle_106 y9 y11 y13 M = some M1 → Rl E (sh_ b) (nn b) s.heap M H locs → lv_has ls 16 [(0, .ref (eB E + 47)), (9, .long y9), (11, .long y11), (13, .long y13)] → W p l e (rm 4 0 0) s m args below meth c H locs 0 0 (MQ below (qq E none (sh_ b) (nn b) M1) args s 0 0 (fr E)) (F0 m 106 ls []) := by
  obtain ⟨hx, hb, hr, hml, hown, hts, hK, hN, hO, hlk, hbs⟩ := id X
  intro y9 y11 y13 M H locs ls hf hR hl
  unfold fX11_addsMiddle_106 at hf
  refine lv_aload_n hx hb dX11_addsMiddle_106 rfl (lv_at hl 0 rfl) ?_
  refine lv_lload hx hb dX11_addsMiddle_107 (lv_at hl 1 rfl) ?_
  refine lv_lload hx hb dX11_addsMiddle_109 (lv_at hl 2 rfl) ?_
  refine lv_lload hx hb dX11_addsMiddle_111 (lv_at hl 3 rfl) ?_
  obtain ⟨q113, c113, hf⟩ := br_b hf
  refine x_callV (k := 47) (As := [.long y9, .long y11, .long y13]) (rest := []) (st1 := [.int q113]) X hR (ctX11_isMiddle c113) ml_X11_320 im_X11_isMiddle se_X11_isMiddle in_X11 co_X11_isMiddle yo_X11_isMiddle rfl kX11 (z_47 b) (rm_ok (by decide) (by decide)) rfl hl.1 rfl rfl (Nat.le_of_ble_eq_true rfl) dX11_addsMiddle_113 ⟨Nat.zero_le _, Nat.zero_le _⟩ (fun H locs hR => ?_)
  refine lv_if_ne (tgt := 120) hx hb dX11_addsMiddle_116 (by decide) (fun q116 => ?_) (fun q116 => ?_)
  · have hf := (br_if hf).2 q116
    refine lv_aload_n hx hb dX11_addsMiddle_120 rfl (lv_at hl 0 rfl) ?_
    refine x_get hx hb hown hts hK hR kX11 (z_47 b) (j := 28) (by decide) fl_X11_317 (v := .int (M.1 47 28)) rfl dX11_addsMiddle_121 ?_
    refine lv_topi (fun v124 e124 => ?_)
    have hf := nx_at e124 hf
    refine lv_istore (lv' := [(15, .int v124), (0, .ref (eB E + 47)), (9, .long y9), (11, .long y11), (13, .long y13)]) hx hb dX11_addsMiddle_124 hl (by decide) rfl (fun ls hl => ?_)
    exact wX11_addsMiddle_126 X (fun hf hR hl => wX11_addsMiddle_202 X hf hR hl) FU hf hR (lv_sub hl [1, 2, 3, 4, 0] rfl)
  · have hf := (br_if hf).1 q116
    cases hf
    exact x_vret hx hb hr hlk hR dX11_addsMiddle_119
set_option maxHeartbeats 4000000 in
set_option maxRecDepth 100000 in
theorem wX11_addsMiddle_27 {M1 : Mem} (X : CX E p s m args c meth cX11_addsMiddle 16 none RX11) : ∀ {y1 : Int64} {y3 : Int64} {y5 : Int64} {t0 : Int64} {M : Mem} {H : Heap} {locs : List Loc} {ls : Array Slot}, fX11_addsMiddle_27 y1 y3 y5 t0 M = some M1 → Rl E (sh_ b) (nn b) s.heap M H locs → lv_has ls 16 [(0, .ref (eB E + 47)), (1, .long y1), (3, .long y3), (5, .long y5)] → W p l e (rm 4 0 0) s m args below meth c H locs 0 0 (MQ below (qq E none (sh_ b) (nn b) M1) args s 0 0 (fr E)) (F0 m 27 ls [.long t0]) := by
  obtain ⟨hx, hb, hr, hml, hown, hts, hK, hN, hO, hlk, hbs⟩ := id X
  intro y1 y3 y5 t0 M H locs ls hf hR hl
  unfold fX11_addsMiddle_27 at hf
  refine lv_lstore (lv' := [(7, .long t0), (0, .ref (eB E + 47)), (1, .long y1), (3, .long y3), (5, .long y5)]) hx hb dX11_addsMiddle_27 hl (by decide) rfl (fun ls hl => ?_)
  refine lv_lload_n hx hb dX11_addsMiddle_29 rfl (lv_at hl 2 rfl) ?_
  refine lv_lload hx hb dX11_addsMiddle_30 (lv_at hl 0 rfl) ?_
  obtain ⟨g32, hf⟩ := br_g hf
  refine lv_ldiv hx hb dX11_addsMiddle_32 g32 ?_
  refine lv_topl (fun v33 e33 => ?_)
  have hf := nx_at e33 hf
  refine lv_lstore (lv' := [(9, .long v33), (7, .long t0), (0, .ref (eB E + 47)), (1, .long y1), (3, .long y3), (5, .long y5)]) hx hb dX11_addsMiddle_33 hl (by decide) rfl (fun ls hl => ?_)
  refine lv_lload_n hx hb dX11_addsMiddle_35 rfl (lv_at hl 4 rfl) ?_
  refine lv_lload hx hb dX11_addsMiddle_36 (lv_at hl 1 rfl) ?_
  obtain ⟨g38, hf⟩ := br_g hf
  refine lv_ldiv hx hb dX11_addsMiddle_38 g38 ?_
  refine lv_topl (fun v39 e39 => ?_)
  have hf := nx_at e39 hf
  refine lv_lstore (lv' := [(11, .long v39), (9, .long v33), (7, .long t0), (0, .ref (eB E + 47)), (1, .long y1), (3, .long y3), (5, .long y5)]) hx hb dX11_addsMiddle_39 hl (by decide) rfl (fun ls hl => ?_)
  refine lv_lload hx hb dX11_addsMiddle_41 (lv_at hl 6 rfl) ?_
  refine lv_lload hx hb dX11_addsMiddle_43 (lv_at hl 2 rfl) ?_
  obtain ⟨g45, hf⟩ := br_g hf
  refine lv_ldiv hx hb dX11_addsMiddle_45 g45 ?_
  refine lv_topl (fun v46 e46 => ?_)
  have hf := nx_at e46 hf
  refine lv_lstore (lv' := [(13, .long v46), (11, .long v39), (9, .long v33), (7, .long t0), (0, .ref (eB E + 47)), (1, .long y1), (3, .long y3), (5, .long y5)]) hx hb dX11_addsMiddle_46 hl (by decide) rfl (fun ls hl => ?_)
  refine lv_iconst (v := 0) hx hb dX11_addsMiddle_48 (by decide) ?_
  refine lv_istore (lv' := [(15, .int (0 : Int32)), (13, .long v46), (11, .long v39), (9, .long v33), (7, .long t0), (0, .ref (eB E + 47)), (1, .long y1), (3, .long y3), (5, .long y5)]) hx hb dX11_addsMiddle_49 hl (by decide) rfl (fun ls hl => ?_)
  exact wX11_addsMiddle_51 X (fun hf hR hl => wX11_addsMiddle_99 X hf hR hl) (fun hf hR hl => wX11_addsMiddle_106 X hf hR hl) FU hf hR (lv_sub hl [5, 3, 2, 1, 0] rfl)
set_option maxHeartbeats 4000000 in
set_option maxRecDepth 100000 in
theorem wX11_addsMiddle_0 {M1 : Mem} (X : CX E p s m args c meth cX11_addsMiddle 16 none RX11) : ∀ {y1 : Int64} {y3 : Int64} {y5 : Int64} {M : Mem} {H : Heap} {locs : List Loc} {ls : Array Slot}, fX11_addsMiddle y1 y3 y5 M = some M1 → Rl E (sh_ b) (nn b) s.heap M H locs → lv_has ls 16 [(0, .ref (eB E + 47)), (1, .long y1), (3, .long y3), (5, .long y5)] → W p l e (rm 4 0 0) s m args below meth c H locs 0 0 (MQ below (qq E none (sh_ b) (nn b) M1) args s 0 0 (fr E)) (F0 m 0 ls []) := by
  obtain ⟨hx, hb, hr, hml, hown, hts, hK, hN, hO, hlk, hbs⟩ := id X
  intro y1 y3 y5 M H locs ls hf hR hl
  unfold fX11_addsMiddle at hf
  refine lv_lload_n hx hb dX11_addsMiddle_0 rfl (lv_at hl 1 rfl) ?_
  refine lv_lload_n hx hb dX11_addsMiddle_1 rfl (lv_at hl 2 rfl) ?_
  obtain ⟨q2, c2, hf⟩ := br_b hf
  refine x_callS (As := [.long y1, .long y3]) (rest := []) (st1 := [.long q2]) X hR (ctX11_gcd c2) ml_X11_294 st_X11_gcd in_X11 co_X11_gcd yo_X11_gcd (rm_ok (by decide) (by decide)) rfl hl.1 rfl rfl (Nat.le_of_ble_eq_true rfl) dX11_addsMiddle_2 ⟨Nat.zero_le _, Nat.zero_le _⟩ (fun H locs hR => ?_)
  refine lv_lload hx hb dX11_addsMiddle_5 (lv_at hl 3 rfl) ?_
  obtain ⟨q7, c7, hf⟩ := br_b hf
  refine x_callS (As := [.long q2, .long y5]) (rest := []) (st1 := [.long q7]) X hR (ctX11_gcd c7) ml_X11_294 st_X11_gcd in_X11 co_X11_gcd yo_X11_gcd (rm_ok (by decide) (by decide)) rfl hl.1 rfl rfl (Nat.le_of_ble_eq_true rfl) dX11_addsMiddle_7 ⟨Nat.zero_le _, Nat.zero_le _⟩ (fun H locs hR => ?_)
  refine lv_lstore (lv' := [(7, .long q7), (0, .ref (eB E + 47)), (1, .long y1), (3, .long y3), (5, .long y5)]) hx hb dX11_addsMiddle_10 hl (by decide) rfl (fun ls hl => ?_)
  refine lv_lload hx hb dX11_addsMiddle_12 (lv_at hl 4 rfl) ?_
  refine lv_lconst (v := 0) hx hb dX11_addsMiddle_14 (by decide) ?_
  refine W.lcmp hx hb dX11_addsMiddle_15 ?_
  refine lv_if_ge (tgt := 25) hx hb dX11_addsMiddle_16 (by decide) (fun q16 => ?_) (fun q16 => ?_)
  · have hf := (br_if hf).1 q16
    refine lv_lload hx hb dX11_addsMiddle_25 (lv_at hl 0 rfl) ?_
    exact wX11_addsMiddle_27 X hf hR (lv_sub hl [1, 2, 3, 4] rfl)
  · have hf := (br_if hf).2 q16
    refine lv_lload hx hb dX11_addsMiddle_19 (lv_at hl 0 rfl) ?_
    refine lv_lneg hx hb dX11_addsMiddle_21 ?_
    refine lv_goto (tgt := 27) hx hb dX11_addsMiddle_22 (by decide) ?_
    exact wX11_addsMiddle_27 X hf hR (lv_sub hl [1, 2, 3, 4] rfl)
theorem ctX11_addsMiddle {l : Launch} {E : Ge} {b : Bool} {M : Mem} {y1 : Int64} {y3 : Int64} {y5 : Int64} {M1 : Mem} (h : fX11_addsMiddle y1 y3 y5 M = some M1) : CT l E yX11_addsMiddle cX11_addsMiddle 16 none 4 0 0 [.ref (eB E + 47), .long y1, .long y3, .long y5] none (sh_ b) (nn b) M (sh_ b) (nn b) M1 := by
  refine met_of (by decide) (Nat.le_of_ble_eq_true rfl) ?_
  intro p e s m args below meth c X _ hR ls hl
  exact wX11_addsMiddle_0 X h hR hl
def fX11_wayFrom (M : Mem) (x1 : Int32) (x2 : Int32) (x3 : Int32) (x4 : Int32) (x5 : Int32) : Option Int32 := (if inb x1 15 = true then nx ((iabs (x4 - x2)) * (M.1 62 (ix x1))) (fun v16 => (if inb x1 15 = true then nx ((iabs (x5 - x3)) * (M.1 65 (ix x1))) (fun v34 => (if inb x1 15 = true then (if (M.1 59 (ix x1)) = (0 : Int32) then some ((v16 * v16) + (v34 * v34)) else (if (M.1 59 (ix x1)) = (1 : Int32) then some (v16 + v34) else (if (M.1 59 (ix x1)) = (2 : Int32) then some (imax v16 v34) else some v16))) else none)) else none)) else none)
set_option maxHeartbeats 4000000 in
set_option maxRecDepth 100000 in
theorem wX11_wayFrom_0 {r : Int32} {M : Mem} (X : CX E p s m args c meth cX11_wayFrom 8 (some .int) RX11) : ∀ {x1 : Int32} {x2 : Int32} {x3 : Int32} {x4 : Int32} {x5 : Int32} {H : Heap} {locs : List Loc} {ls : Array Slot}, fX11_wayFrom M x1 x2 x3 x4 x5 = some r → Rl E (sh_ b) (nn b) s.heap M H locs → lv_has ls 8 [(0, .ref (eB E + 47)), (1, .int x1), (2, .int x2), (3, .int x3), (4, .int x4), (5, .int x5)] → W p l e (rm 2 0 0) s m args below meth c H locs 0 0 (MQ below (qq E (some (.int r)) (sh_ b) (nn b) M) args s 0 0 (fr E)) (F0 m 0 ls []) := by
  obtain ⟨hx, hb, hr, hml, hown, hts, hK, hN, hO, hlk, hbs⟩ := id X
  intro x1 x2 x3 x4 x5 H locs ls hf hR hl
  unfold fX11_wayFrom at hf
  refine lv_iload hx hb dX11_wayFrom_0 (lv_at hl 4 rfl) ?_
  refine lv_iload_n hx hb dX11_wayFrom_2 rfl (lv_at hl 2 rfl) ?_
  refine lv_isub hx hb dX11_wayFrom_3 ?_
  refine va_mabs hx hb (by rw [hml]; exact hl.1.symm) hown (hts _ ml_X11_254) (hts _ st_abs) (hts _ in_J9) (hts _ co_abs) (by decide) (Nat.le_of_ble_eq_true rfl) (Nat.zero_le _) (Nat.zero_le _) dX11_wayFrom_4 ?_
  refine W.eq (g2 := F0 m 7 ls [.int (iabs (x4 - x2))]) rfl ?_
  refine lv_aload_n hx hb dX11_wayFrom_7 rfl (lv_at hl 0 rfl) ?_
  refine x_get hx hb hown hts hK hR kX11 (z_47 b) (j := 10) (by decide) fl_X11_27 (v := .ref (eB E + 61)) rfl dX11_wayFrom_8 ?_
  refine lv_iconst (v := 0) hx hb dX11_wayFrom_11 (by decide) ?_
  refine x_aald5 hx hb hK hR (z_61 b) (by decide) (r := 62) rfl dX11_wayFrom_12 ?_
  refine lv_iload_n hx hb dX11_wayFrom_13 rfl (lv_at hl 1 rfl) ?_
  obtain ⟨g14, hf⟩ := br_g hf
  refine x_iald hx hb hK hR (z_62 b) g14 dX11_wayFrom_14 ?_
  refine lv_imul hx hb dX11_wayFrom_15 ?_
  refine lv_topi (fun v16 e16 => ?_)
  have hf := nx_at e16 hf
  refine lv_istore (lv' := [(6, .int v16), (0, .ref (eB E + 47)), (1, .int x1), (2, .int x2), (3, .int x3), (4, .int x4), (5, .int x5)]) hx hb dX11_wayFrom_16 hl (by decide) rfl (fun ls hl => ?_)
  refine lv_iload hx hb dX11_wayFrom_18 (lv_at hl 6 rfl) ?_
  refine lv_iload_n hx hb dX11_wayFrom_20 rfl (lv_at hl 4 rfl) ?_
  refine lv_isub hx hb dX11_wayFrom_21 ?_
  refine va_mabs hx hb (by rw [hml]; exact hl.1.symm) hown (hts _ ml_X11_254) (hts _ st_abs) (hts _ in_J9) (hts _ co_abs) (by decide) (Nat.le_of_ble_eq_true rfl) (Nat.zero_le _) (Nat.zero_le _) dX11_wayFrom_22 ?_
  refine W.eq (g2 := F0 m 25 ls [.int (iabs (x5 - x3))]) rfl ?_
  refine lv_aload_n hx hb dX11_wayFrom_25 rfl (lv_at hl 1 rfl) ?_
  refine x_get hx hb hown hts hK hR kX11 (z_47 b) (j := 11) (by decide) fl_X11_30 (v := .ref (eB E + 64)) rfl dX11_wayFrom_26 ?_
  refine lv_iconst (v := 0) hx hb dX11_wayFrom_29 (by decide) ?_
  refine x_aald5 hx hb hK hR (z_64 b) (by decide) (r := 65) rfl dX11_wayFrom_30 ?_
  refine lv_iload_n hx hb dX11_wayFrom_31 rfl (lv_at hl 2 rfl) ?_
  obtain ⟨g32, hf⟩ := br_g hf
  refine x_iald hx hb hK hR (z_65 b) g32 dX11_wayFrom_32 ?_
  refine lv_imul hx hb dX11_wayFrom_33 ?_
  refine lv_topi (fun v34 e34 => ?_)
  have hf := nx_at e34 hf
  refine lv_istore (lv' := [(7, .int v34), (6, .int v16), (0, .ref (eB E + 47)), (1, .int x1), (2, .int x2), (3, .int x3), (4, .int x4), (5, .int x5)]) hx hb dX11_wayFrom_34 hl (by decide) rfl (fun ls hl => ?_)
  refine lv_aload_n hx hb dX11_wayFrom_36 rfl (lv_at hl 2 rfl) ?_
  refine x_get hx hb hown hts hK hR kX11 (z_47 b) (j := 9) (by decide) fl_X11_24 (v := .ref (eB E + 58)) rfl dX11_wayFrom_37 ?_
  refine lv_iconst (v := 0) hx hb dX11_wayFrom_40 (by decide) ?_
  refine x_aald5 hx hb hK hR (z_58 b) (by decide) (r := 59) rfl dX11_wayFrom_41 ?_
  refine lv_iload_n hx hb dX11_wayFrom_42 rfl (lv_at hl 3 rfl) ?_
  obtain ⟨g43, hf⟩ := br_g hf
  refine x_iald hx hb hK hR (z_59 b) g43 dX11_wayFrom_43 ?_
  by_cases q44_0 : (M.1 59 (ix x1)) = (0 : Int32)
  · have hf := (br_if hf).1 q44_0
    refine x_tsw (v := 0) (tgt := 72) hx hb dX11_wayFrom_44 q44_0 (by decide) (by decide) (off := 28) (by decide) (by decide) ?_
    refine lv_iload hx hb dX11_wayFrom_72 (lv_at hl 1 rfl) ?_
    refine lv_iload hx hb dX11_wayFrom_74 (lv_at hl 1 rfl) ?_
    refine lv_imul hx hb dX11_wayFrom_76 ?_
    refine lv_iload hx hb dX11_wayFrom_77 (lv_at hl 0 rfl) ?_
    refine lv_iload hx hb dX11_wayFrom_79 (lv_at hl 0 rfl) ?_
    refine lv_imul hx hb dX11_wayFrom_81 ?_
    refine lv_iadd hx hb dX11_wayFrom_82 ?_
    cases hf
    exact x_iret hx hb hr hlk hR dX11_wayFrom_83
  · have hf := (br_if hf).2 q44_0
    by_cases q44_1 : (M.1 59 (ix x1)) = (1 : Int32)
    · have hf := (br_if hf).1 q44_1
      refine x_tsw (v := 1) (tgt := 84) hx hb dX11_wayFrom_44 q44_1 (by decide) (by decide) (off := 40) (by decide) (by decide) ?_
      refine lv_iload hx hb dX11_wayFrom_84 (lv_at hl 1 rfl) ?_
      refine lv_iload hx hb dX11_wayFrom_86 (lv_at hl 0 rfl) ?_
      refine lv_iadd hx hb dX11_wayFrom_88 ?_
      cases hf
      exact x_iret hx hb hr hlk hR dX11_wayFrom_89
    · have hf := (br_if hf).2 q44_1
      by_cases q44_2 : (M.1 59 (ix x1)) = (2 : Int32)
      · have hf := (br_if hf).1 q44_2
        refine x_tsw (v := 2) (tgt := 90) hx hb dX11_wayFrom_44 q44_2 (by decide) (by decide) (off := 46) (by decide) (by decide) ?_
        refine lv_iload hx hb dX11_wayFrom_90 (lv_at hl 1 rfl) ?_
        refine lv_iload hx hb dX11_wayFrom_92 (lv_at hl 0 rfl) ?_
        refine va_mmax hx hb (by rw [hml]; exact hl.1.symm) hown (hts _ ml_X11_192) (hts _ st_max) (hts _ in_J9) (hts _ co_max) (by decide) (Nat.le_of_ble_eq_true rfl) (Nat.zero_le _) (Nat.zero_le _) dX11_wayFrom_94 ?_
        refine W.eq (g2 := F0 m 97 ls [.int (imax v16 v34)]) rfl ?_
        cases hf
        exact x_iret hx hb hr hlk hR dX11_wayFrom_97
      · have hf := (br_if hf).2 q44_2
        refine lv_tableOut (tgt := 98) hx hb dX11_wayFrom_44 (by have a0 := lv_neT q44_0 (show (0 : Int32).toInt = 0 from rfl); have a1 := lv_neT q44_1 (show (1 : Int32).toInt = 1 from rfl); have a2 := lv_neT q44_2 (show (2 : Int32).toInt = 2 from rfl); omega) (by decide) ?_
        refine lv_iload hx hb dX11_wayFrom_98 (lv_at hl 1 rfl) ?_
        cases hf
        exact x_iret hx hb hr hlk hR dX11_wayFrom_100
theorem ctX11_wayFrom {l : Launch} {E : Ge} {b : Bool} {M : Mem} {x1 : Int32} {x2 : Int32} {x3 : Int32} {x4 : Int32} {x5 : Int32} {r : Int32} (h : fX11_wayFrom M x1 x2 x3 x4 x5 = some r) : CT l E yX11_wayFrom cX11_wayFrom 8 (some .int) 2 0 0 [.ref (eB E + 47), .int x1, .int x2, .int x3, .int x4, .int x5] (some (.int r)) (sh_ b) (nn b) M (sh_ b) (nn b) M := by
  refine met_of (by decide) (Nat.le_of_ble_eq_true rfl) ?_
  intro p e s m args below meth c X _ hR ls hl
  exact wX11_wayFrom_0 X h hR hl
def fX11_sure_187 (M : Mem) (k64 : Int32 → Int32 → Int32 → Int32 → Int32 → Int32 → Int32 → Int32 → Int32 → Option Int32) (k195 : Int32 → Int32 → Int32 → Int32 → Int32 → Int32 → Int32 → Int32 → Option Int32) (x1 : Int32) (x2 : Int32) (x3 : Int32) (x4 : Int32) (x5 : Int32) (x6 : Int32) (x8 : Int32) (x9 : Int32) (s0 : Int32) : Option Int32 := nx (x9 + (1 : Int32)) (fun v189 => k64 x1 x2 x3 x4 x5 x6 s0 x8 v189)
def fX11_sure_186 (M : Mem) (k64 : Int32 → Int32 → Int32 → Int32 → Int32 → Int32 → Int32 → Int32 → Int32 → Option Int32) (k195 : Int32 → Int32 → Int32 → Int32 → Int32 → Int32 → Int32 → Int32 → Option Int32) (x1 : Int32) (x2 : Int32) (x3 : Int32) (x4 : Int32) (x5 : Int32) (x6 : Int32) (x8 : Int32) (x9 : Int32) : Option Int32 := fX11_sure_187 M k64 k195 x1 x2 x3 x4 x5 x6 x8 x9 (0 : Int32)
def fX11_sure_170 (M : Mem) (k64 : Int32 → Int32 → Int32 → Int32 → Int32 → Int32 → Int32 → Int32 → Int32 → Option Int32) (k195 : Int32 → Int32 → Int32 → Int32 → Int32 → Int32 → Int32 → Int32 → Option Int32) (x1 : Int32) (x2 : Int32) (x3 : Int32) (x4 : Int32) (x5 : Int32) (x7 : Int32) (x8 : Int32) (x9 : Int32) (x10 : Int32) (s0 : Int32) : Option Int32 := (if x7 = 0 then fX11_sure_186 M k64 k195 x1 x2 x3 x4 x5 s0 x8 x9 else (if x10 = 0 then fX11_sure_187 M k64 k195 x1 x2 x3 x4 x5 s0 x8 x9 (1 : Int32) else fX11_sure_186 M k64 k195 x1 x2 x3 x4 x5 s0 x8 x9))
def fX11_sure_169 (M : Mem) (k64 : Int32 → Int32 → Int32 → Int32 → Int32 → Int32 → Int32 → Int32 → Int32 → Option Int32) (k195 : Int32 → Int32 → Int32 → Int32 → Int32 → Int32 → Int32 → Int32 → Option Int32) (x1 : Int32) (x2 : Int32) (x3 : Int32) (x4 : Int32) (x5 : Int32) (x7 : Int32) (x8 : Int32) (x9 : Int32) (x10 : Int32) : Option Int32 := fX11_sure_170 M k64 k195 x1 x2 x3 x4 x5 x7 x8 x9 x10 (0 : Int32)
def fX11_sure_153 (M : Mem) (k64 : Int32 → Int32 → Int32 → Int32 → Int32 → Int32 → Int32 → Int32 → Int32 → Option Int32) (k195 : Int32 → Int32 → Int32 → Int32 → Int32 → Int32 → Int32 → Int32 → Option Int32) (x1 : Int32) (x2 : Int32) (x3 : Int32) (x4 : Int32) (x6 : Int32) (x7 : Int32) (x8 : Int32) (x9 : Int32) (x10 : Int32) (s0 : Int32) : Option Int32 := (if x6 = 0 then fX11_sure_169 M k64 k195 x1 x2 x3 x4 s0 x7 x8 x9 x10 else (if x10 ≤ 0 then fX11_sure_169 M k64 k195 x1 x2 x3 x4 s0 x7 x8 x9 x10 else fX11_sure_170 M k64 k195 x1 x2 x3 x4 s0 x7 x8 x9 x10 (1 : Int32)))
def fX11_sure_152 (M : Mem) (k64 : Int32 → Int32 → Int32 → Int32 → Int32 → Int32 → Int32 → Int32 → Int32 → Option Int32) (k195 : Int32 → Int32 → Int32 → Int32 → Int32 → Int32 → Int32 → Int32 → Option Int32) (x1 : Int32) (x2 : Int32) (x3 : Int32) (x4 : Int32) (x6 : Int32) (x7 : Int32) (x8 : Int32) (x9 : Int32) (x10 : Int32) : Option Int32 := fX11_sure_153 M k64 k195 x1 x2 x3 x4 x6 x7 x8 x9 x10 (0 : Int32)
def fX11_sure_64 (M : Mem) (k195 : Int32 → Int32 → Int32 → Int32 → Int32 → Int32 → Int32 → Int32 → Option Int32) : Nat → Int32 → Int32 → Int32 → Int32 → Int32 → Int32 → Int32 → Int32 → Int32 → Option Int32
  | 0, _, _, _, _, _, _, _, _, _ => none
  | n + 1, x1, x2, x3, x4, x5, x6, x7, x8, x9 => (if inb x1 15 = true then (if (imin (99 : Int32) ((M.1 53 (ix x1)) + x4)) < x9 then k195 x1 x2 x3 x4 x5 x6 x7 x8 else (if inb x2 20 = true then (if inb x2 20 = true then (fX11_wayFrom M x1 x8 x9 (M.1 68 (ix x2)) (M.1 71 (ix x2))).bind (fun q107 => (if inb x3 20 = true then (if inb x3 20 = true then (fX11_wayFrom M x1 x8 x9 (M.1 68 (ix x3)) (M.1 71 (ix x3))).bind (fun q132 => nx (q107 - q132) (fun v136 => (if x5 = 0 then fX11_sure_152 M (fX11_sure_64 M k195 n) k195 x1 x2 x3 x4 x6 x7 x8 x9 v136 else (if 0 ≤ v136 then fX11_sure_152 M (fX11_sure_64 M k195 n) k195 x1 x2 x3 x4 x6 x7 x8 x9 v136 else fX11_sure_153 M (fX11_sure_64 M k195 n) k195 x1 x2 x3 x4 x6 x7 x8 x9 v136 (1 : Int32))))) else none) else none)) else none) else none)) else none)
def fX11_sure_195 (M : Mem) (k26 : Int32 → Int32 → Int32 → Int32 → Int32 → Int32 → Int32 → Int32 → Option Int32) (k201 : Int32 → Int32 → Int32 → Option Int32) (x1 : Int32) (x2 : Int32) (x3 : Int32) (x4 : Int32) (x5 : Int32) (x6 : Int32) (x7 : Int32) (x8 : Int32) : Option Int32 := nx (x8 + (1 : Int32)) (fun v195 => k26 x1 x2 x3 x4 x5 x6 x7 v195)
def fX11_sure_26 (M : Mem) (k201 : Int32 → Int32 → Int32 → Option Int32) : Nat → Int32 → Int32 → Int32 → Int32 → Int32 → Int32 → Int32 → Int32 → Option Int32
  | 0, _, _, _, _, _, _, _, _ => none
  | n + 1, x1, x2, x3, x4, x5, x6, x7, x8 => (if inb x1 15 = true then (if (imin (99 : Int32) ((M.1 50 (ix x1)) + x4)) < x8 then k201 x5 x6 x7 else (if inb x1 15 = true then nx (imax (0 : Int32) ((M.1 53 (ix x1)) - x4)) (fun v62 => fX11_sure_64 M (fX11_sure_195 M (fX11_sure_26 M k201 n) k201) FU x1 x2 x3 x4 x5 x6 x7 x8 v62) else none)) else none)
def fX11_sure_229 (M : Mem) (s0 : Int32) : Option Int32 := some s0
def fX11_sure_201 (M : Mem) (x5 : Int32) (x6 : Int32) (x7 : Int32) : Option Int32 := (if x5 = 0 then (if x6 = 0 then (if x7 = 0 then fX11_sure_229 M (0 : Int32) else fX11_sure_229 M (2 : Int32)) else fX11_sure_229 M (-1 : Int32)) else fX11_sure_229 M (1 : Int32))
def fX11_sure (M : Mem) (x1 : Int32) (x2 : Int32) (x3 : Int32) (x4 : Int32) : Option Int32 := (if inb x1 15 = true then nx (imax (0 : Int32) ((M.1 50 (ix x1)) - x4)) (fun v24 => fX11_sure_26 M (fX11_sure_201 M) FU x1 x2 x3 x4 (1 : Int32) (1 : Int32) (1 : Int32) v24) else none)
set_option maxHeartbeats 4000000 in
set_option maxRecDepth 100000 in
theorem wX11_sure_187 {r : Int32} {M : Mem} {k64 : Int32 → Int32 → Int32 → Int32 → Int32 → Int32 → Int32 → Int32 → Int32 → Option Int32} {k195 : Int32 → Int32 → Int32 → Int32 → Int32 → Int32 → Int32 → Int32 → Option Int32} (X : CX E p s m args c meth cX11_sure 11 (some .int) RX11) (hk64 : ∀ {x1 : Int32} {x2 : Int32} {x3 : Int32} {x4 : Int32} {x5 : Int32} {x6 : Int32} {x7 : Int32} {x8 : Int32} {x9 : Int32} {H : Heap} {locs : List Loc} {ls : Array Slot}, k64 x1 x2 x3 x4 x5 x6 x7 x8 x9 = some r → Rl E (sh_ b) (nn b) s.heap M H locs → lv_has ls 11 [(0, .ref (eB E + 47)), (1, .int x1), (2, .int x2), (3, .int x3), (4, .int x4), (5, .int x5), (6, .int x6), (7, .int x7), (8, .int x8), (9, .int x9)] → W p l e (rm 3 0 0) s m args below meth c H locs 0 0 (MQ below (qq E (some (.int r)) (sh_ b) (nn b) M) args s 0 0 (fr E)) (F0 m 64 ls [])) (hk195 : ∀ {x1 : Int32} {x2 : Int32} {x3 : Int32} {x4 : Int32} {x5 : Int32} {x6 : Int32} {x7 : Int32} {x8 : Int32} {H : Heap} {locs : List Loc} {ls : Array Slot}, k195 x1 x2 x3 x4 x5 x6 x7 x8 = some r → Rl E (sh_ b) (nn b) s.heap M H locs → lv_has ls 11 [(0, .ref (eB E + 47)), (1, .int x1), (2, .int x2), (3, .int x3), (4, .int x4), (5, .int x5), (6, .int x6), (7, .int x7), (8, .int x8)] → W p l e (rm 3 0 0) s m args below meth c H locs 0 0 (MQ below (qq E (some (.int r)) (sh_ b) (nn b) M) args s 0 0 (fr E)) (F0 m 195 ls [])) : ∀ {x1 : Int32} {x2 : Int32} {x3 : Int32} {x4 : Int32} {x5 : Int32} {x6 : Int32} {x8 : Int32} {x9 : Int32} {s0 : Int32} {H : Heap} {locs : List Loc} {ls : Array Slot}, fX11_sure_187 M k64 k195 x1 x2 x3 x4 x5 x6 x8 x9 s0 = some r → Rl E (sh_ b) (nn b) s.heap M H locs → lv_has ls 11 [(0, .ref (eB E + 47)), (1, .int x1), (2, .int x2), (3, .int x3), (4, .int x4), (5, .int x5), (6, .int x6), (8, .int x8), (9, .int x9)] → W p l e (rm 3 0 0) s m args below meth c H locs 0 0 (MQ below (qq E (some (.int r)) (sh_ b) (nn b) M) args s 0 0 (fr E)) (F0 m 187 ls [.int s0]) := by
  obtain ⟨hx, hb, hr, hml, hown, hts, hK, hN, hO, hlk, hbs⟩ := id X
  intro x1 x2 x3 x4 x5 x6 x8 x9 s0 H locs ls hf hR hl
  unfold fX11_sure_187 at hf
  refine lv_istore (lv' := [(7, .int s0), (0, .ref (eB E + 47)), (1, .int x1), (2, .int x2), (3, .int x3), (4, .int x4), (5, .int x5), (6, .int x6), (8, .int x8), (9, .int x9)]) hx hb dX11_sure_187 hl (by decide) rfl (fun ls hl => ?_)
  obtain ⟨v189, e189⟩ : ∃ y : Int32, y = (x9 + (1 : Int32)) := ⟨_, rfl⟩
  have hf := nx_at e189 hf
  refine lv_iinc (v := v189) (lv' := [(9, .int v189), (7, .int s0), (0, .ref (eB E + 47)), (1, .int x1), (2, .int x2), (3, .int x3), (4, .int x4), (5, .int x5), (6, .int x6), (8, .int x8)]) hx hb dX11_sure_189 hl (k := 9) rfl (by rw [e189]; rfl) (by decide) rfl (fun ls hl => ?_)
  refine lv_goto (tgt := 64) hx hb dX11_sure_192 (by decide) ?_
  exact hk64 hf hR (lv_sub hl [2, 3, 4, 5, 6, 7, 8, 1, 9, 0] rfl)
set_option maxHeartbeats 4000000 in
set_option maxRecDepth 100000 in
theorem wX11_sure_186 {r : Int32} {M : Mem} {k64 : Int32 → Int32 → Int32 → Int32 → Int32 → Int32 → Int32 → Int32 → Int32 → Option Int32} {k195 : Int32 → Int32 → Int32 → Int32 → Int32 → Int32 → Int32 → Int32 → Option Int32} (X : CX E p s m args c meth cX11_sure 11 (some .int) RX11) (hk64 : ∀ {x1 : Int32} {x2 : Int32} {x3 : Int32} {x4 : Int32} {x5 : Int32} {x6 : Int32} {x7 : Int32} {x8 : Int32} {x9 : Int32} {H : Heap} {locs : List Loc} {ls : Array Slot}, k64 x1 x2 x3 x4 x5 x6 x7 x8 x9 = some r → Rl E (sh_ b) (nn b) s.heap M H locs → lv_has ls 11 [(0, .ref (eB E + 47)), (1, .int x1), (2, .int x2), (3, .int x3), (4, .int x4), (5, .int x5), (6, .int x6), (7, .int x7), (8, .int x8), (9, .int x9)] → W p l e (rm 3 0 0) s m args below meth c H locs 0 0 (MQ below (qq E (some (.int r)) (sh_ b) (nn b) M) args s 0 0 (fr E)) (F0 m 64 ls [])) (hk195 : ∀ {x1 : Int32} {x2 : Int32} {x3 : Int32} {x4 : Int32} {x5 : Int32} {x6 : Int32} {x7 : Int32} {x8 : Int32} {H : Heap} {locs : List Loc} {ls : Array Slot}, k195 x1 x2 x3 x4 x5 x6 x7 x8 = some r → Rl E (sh_ b) (nn b) s.heap M H locs → lv_has ls 11 [(0, .ref (eB E + 47)), (1, .int x1), (2, .int x2), (3, .int x3), (4, .int x4), (5, .int x5), (6, .int x6), (7, .int x7), (8, .int x8)] → W p l e (rm 3 0 0) s m args below meth c H locs 0 0 (MQ below (qq E (some (.int r)) (sh_ b) (nn b) M) args s 0 0 (fr E)) (F0 m 195 ls [])) : ∀ {x1 : Int32} {x2 : Int32} {x3 : Int32} {x4 : Int32} {x5 : Int32} {x6 : Int32} {x8 : Int32} {x9 : Int32} {H : Heap} {locs : List Loc} {ls : Array Slot}, fX11_sure_186 M k64 k195 x1 x2 x3 x4 x5 x6 x8 x9 = some r → Rl E (sh_ b) (nn b) s.heap M H locs → lv_has ls 11 [(0, .ref (eB E + 47)), (1, .int x1), (2, .int x2), (3, .int x3), (4, .int x4), (5, .int x5), (6, .int x6), (8, .int x8), (9, .int x9)] → W p l e (rm 3 0 0) s m args below meth c H locs 0 0 (MQ below (qq E (some (.int r)) (sh_ b) (nn b) M) args s 0 0 (fr E)) (F0 m 186 ls []) := by
  obtain ⟨hx, hb, hr, hml, hown, hts, hK, hN, hO, hlk, hbs⟩ := id X
  intro x1 x2 x3 x4 x5 x6 x8 x9 H locs ls hf hR hl
  unfold fX11_sure_186 at hf
  refine lv_iconst (v := 0) hx hb dX11_sure_186 (by decide) ?_
  exact wX11_sure_187 X (fun hf hR hl => hk64 hf hR hl) (fun hf hR hl => hk195 hf hR hl) hf hR hl
set_option maxHeartbeats 4000000 in
set_option maxRecDepth 100000 in
theorem wX11_sure_170 {r : Int32} {M : Mem} {k64 : Int32 → Int32 → Int32 → Int32 → Int32 → Int32 → Int32 → Int32 → Int32 → Option Int32} {k195 : Int32 → Int32 → Int32 → Int32 → Int32 → Int32 → Int32 → Int32 → Option Int32} (X : CX E p s m args c meth cX11_sure 11 (some .int) RX11) (hk64 : ∀ {x1 : Int32} {x2 : Int32} {x3 : Int32} {x4 : Int32} {x5 : Int32} {x6 : Int32} {x7 : Int32} {x8 : Int32} {x9 : Int32} {H : Heap} {locs : List Loc} {ls : Array Slot}, k64 x1 x2 x3 x4 x5 x6 x7 x8 x9 = some r → Rl E (sh_ b) (nn b) s.heap M H locs → lv_has ls 11 [(0, .ref (eB E + 47)), (1, .int x1), (2, .int x2), (3, .int x3), (4, .int x4), (5, .int x5), (6, .int x6), (7, .int x7), (8, .int x8), (9, .int x9)] → W p l e (rm 3 0 0) s m args below meth c H locs 0 0 (MQ below (qq E (some (.int r)) (sh_ b) (nn b) M) args s 0 0 (fr E)) (F0 m 64 ls [])) (hk195 : ∀ {x1 : Int32} {x2 : Int32} {x3 : Int32} {x4 : Int32} {x5 : Int32} {x6 : Int32} {x7 : Int32} {x8 : Int32} {H : Heap} {locs : List Loc} {ls : Array Slot}, k195 x1 x2 x3 x4 x5 x6 x7 x8 = some r → Rl E (sh_ b) (nn b) s.heap M H locs → lv_has ls 11 [(0, .ref (eB E + 47)), (1, .int x1), (2, .int x2), (3, .int x3), (4, .int x4), (5, .int x5), (6, .int x6), (7, .int x7), (8, .int x8)] → W p l e (rm 3 0 0) s m args below meth c H locs 0 0 (MQ below (qq E (some (.int r)) (sh_ b) (nn b) M) args s 0 0 (fr E)) (F0 m 195 ls [])) : ∀ {x1 : Int32} {x2 : Int32} {x3 : Int32} {x4 : Int32} {x5 : Int32} {x7 : Int32} {x8 : Int32} {x9 : Int32} {x10 : Int32} {s0 : Int32} {H : Heap} {locs : List Loc} {ls : Array Slot}, fX11_sure_170 M k64 k195 x1 x2 x3 x4 x5 x7 x8 x9 x10 s0 = some r → Rl E (sh_ b) (nn b) s.heap M H locs → lv_has ls 11 [(0, .ref (eB E + 47)), (1, .int x1), (2, .int x2), (3, .int x3), (4, .int x4), (5, .int x5), (7, .int x7), (8, .int x8), (9, .int x9), (10, .int x10)] → W p l e (rm 3 0 0) s m args below meth c H locs 0 0 (MQ below (qq E (some (.int r)) (sh_ b) (nn b) M) args s 0 0 (fr E)) (F0 m 170 ls [.int s0]) := by
  obtain ⟨hx, hb, hr, hml, hown, hts, hK, hN, hO, hlk, hbs⟩ := id X
  intro x1 x2 x3 x4 x5 x7 x8 x9 x10 s0 H locs ls hf hR hl
  unfold fX11_sure_170 at hf
  refine lv_istore (lv' := [(6, .int s0), (0, .ref (eB E + 47)), (1, .int x1), (2, .int x2), (3, .int x3), (4, .int x4), (5, .int x5), (7, .int x7), (8, .int x8), (9, .int x9), (10, .int x10)]) hx hb dX11_sure_170 hl (by decide) rfl (fun ls hl => ?_)
  refine lv_iload hx hb dX11_sure_172 (lv_at hl 7 rfl) ?_
  refine lv_if_eq (tgt := 186) hx hb dX11_sure_174 (by decide) (fun q174 => ?_) (fun q174 => ?_)
  · have hf := (br_if hf).1 q174
    exact wX11_sure_186 X (fun hf hR hl => hk64 hf hR hl) (fun hf hR hl => hk195 hf hR hl) hf hR (lv_sub hl [1, 2, 3, 4, 5, 6, 0, 8, 9] rfl)
  · have hf := (br_if hf).2 q174
    refine lv_iload hx hb dX11_sure_177 (lv_at hl 10 rfl) ?_
    refine lv_if_ne (tgt := 186) hx hb dX11_sure_179 (by decide) (fun q179 => ?_) (fun q179 => ?_)
    · have hf := (br_if hf).2 q179
      exact wX11_sure_186 X (fun hf hR hl => hk64 hf hR hl) (fun hf hR hl => hk195 hf hR hl) hf hR (lv_sub hl [1, 2, 3, 4, 5, 6, 0, 8, 9] rfl)
    · have hf := (br_if hf).1 q179
      refine lv_iconst (v := 1) hx hb dX11_sure_182 (by decide) ?_
      refine lv_goto (tgt := 187) hx hb dX11_sure_183 (by decide) ?_
      exact wX11_sure_187 X (fun hf hR hl => hk64 hf hR hl) (fun hf hR hl => hk195 hf hR hl) hf hR (lv_sub hl [1, 2, 3, 4, 5, 6, 0, 8, 9] rfl)
set_option maxHeartbeats 4000000 in
set_option maxRecDepth 100000 in
theorem wX11_sure_169 {r : Int32} {M : Mem} {k64 : Int32 → Int32 → Int32 → Int32 → Int32 → Int32 → Int32 → Int32 → Int32 → Option Int32} {k195 : Int32 → Int32 → Int32 → Int32 → Int32 → Int32 → Int32 → Int32 → Option Int32} (X : CX E p s m args c meth cX11_sure 11 (some .int) RX11) (hk64 : ∀ {x1 : Int32} {x2 : Int32} {x3 : Int32} {x4 : Int32} {x5 : Int32} {x6 : Int32} {x7 : Int32} {x8 : Int32} {x9 : Int32} {H : Heap} {locs : List Loc} {ls : Array Slot}, k64 x1 x2 x3 x4 x5 x6 x7 x8 x9 = some r → Rl E (sh_ b) (nn b) s.heap M H locs → lv_has ls 11 [(0, .ref (eB E + 47)), (1, .int x1), (2, .int x2), (3, .int x3), (4, .int x4), (5, .int x5), (6, .int x6), (7, .int x7), (8, .int x8), (9, .int x9)] → W p l e (rm 3 0 0) s m args below meth c H locs 0 0 (MQ below (qq E (some (.int r)) (sh_ b) (nn b) M) args s 0 0 (fr E)) (F0 m 64 ls [])) (hk195 : ∀ {x1 : Int32} {x2 : Int32} {x3 : Int32} {x4 : Int32} {x5 : Int32} {x6 : Int32} {x7 : Int32} {x8 : Int32} {H : Heap} {locs : List Loc} {ls : Array Slot}, k195 x1 x2 x3 x4 x5 x6 x7 x8 = some r → Rl E (sh_ b) (nn b) s.heap M H locs → lv_has ls 11 [(0, .ref (eB E + 47)), (1, .int x1), (2, .int x2), (3, .int x3), (4, .int x4), (5, .int x5), (6, .int x6), (7, .int x7), (8, .int x8)] → W p l e (rm 3 0 0) s m args below meth c H locs 0 0 (MQ below (qq E (some (.int r)) (sh_ b) (nn b) M) args s 0 0 (fr E)) (F0 m 195 ls [])) : ∀ {x1 : Int32} {x2 : Int32} {x3 : Int32} {x4 : Int32} {x5 : Int32} {x7 : Int32} {x8 : Int32} {x9 : Int32} {x10 : Int32} {H : Heap} {locs : List Loc} {ls : Array Slot}, fX11_sure_169 M k64 k195 x1 x2 x3 x4 x5 x7 x8 x9 x10 = some r → Rl E (sh_ b) (nn b) s.heap M H locs → lv_has ls 11 [(0, .ref (eB E + 47)), (1, .int x1), (2, .int x2), (3, .int x3), (4, .int x4), (5, .int x5), (7, .int x7), (8, .int x8), (9, .int x9), (10, .int x10)] → W p l e (rm 3 0 0) s m args below meth c H locs 0 0 (MQ below (qq E (some (.int r)) (sh_ b) (nn b) M) args s 0 0 (fr E)) (F0 m 169 ls []) := by
  obtain ⟨hx, hb, hr, hml, hown, hts, hK, hN, hO, hlk, hbs⟩ := id X
  intro x1 x2 x3 x4 x5 x7 x8 x9 x10 H locs ls hf hR hl
  unfold fX11_sure_169 at hf
  refine lv_iconst (v := 0) hx hb dX11_sure_169 (by decide) ?_
  exact wX11_sure_170 X (fun hf hR hl => hk64 hf hR hl) (fun hf hR hl => hk195 hf hR hl) hf hR hl
set_option maxHeartbeats 4000000 in
set_option maxRecDepth 100000 in
theorem wX11_sure_153 {r : Int32} {M : Mem} {k64 : Int32 → Int32 → Int32 → Int32 → Int32 → Int32 → Int32 → Int32 → Int32 → Option Int32} {k195 : Int32 → Int32 → Int32 → Int32 → Int32 → Int32 → Int32 → Int32 → Option Int32} (X : CX E p s m args c meth cX11_sure 11 (some .int) RX11) (hk64 : ∀ {x1 : Int32} {x2 : Int32} {x3 : Int32} {x4 : Int32} {x5 : Int32} {x6 : Int32} {x7 : Int32} {x8 : Int32} {x9 : Int32} {H : Heap} {locs : List Loc} {ls : Array Slot}, k64 x1 x2 x3 x4 x5 x6 x7 x8 x9 = some r → Rl E (sh_ b) (nn b) s.heap M H locs → lv_has ls 11 [(0, .ref (eB E + 47)), (1, .int x1), (2, .int x2), (3, .int x3), (4, .int x4), (5, .int x5), (6, .int x6), (7, .int x7), (8, .int x8), (9, .int x9)] → W p l e (rm 3 0 0) s m args below meth c H locs 0 0 (MQ below (qq E (some (.int r)) (sh_ b) (nn b) M) args s 0 0 (fr E)) (F0 m 64 ls [])) (hk195 : ∀ {x1 : Int32} {x2 : Int32} {x3 : Int32} {x4 : Int32} {x5 : Int32} {x6 : Int32} {x7 : Int32} {x8 : Int32} {H : Heap} {locs : List Loc} {ls : Array Slot}, k195 x1 x2 x3 x4 x5 x6 x7 x8 = some r → Rl E (sh_ b) (nn b) s.heap M H locs → lv_has ls 11 [(0, .ref (eB E + 47)), (1, .int x1), (2, .int x2), (3, .int x3), (4, .int x4), (5, .int x5), (6, .int x6), (7, .int x7), (8, .int x8)] → W p l e (rm 3 0 0) s m args below meth c H locs 0 0 (MQ below (qq E (some (.int r)) (sh_ b) (nn b) M) args s 0 0 (fr E)) (F0 m 195 ls [])) : ∀ {x1 : Int32} {x2 : Int32} {x3 : Int32} {x4 : Int32} {x6 : Int32} {x7 : Int32} {x8 : Int32} {x9 : Int32} {x10 : Int32} {s0 : Int32} {H : Heap} {locs : List Loc} {ls : Array Slot}, fX11_sure_153 M k64 k195 x1 x2 x3 x4 x6 x7 x8 x9 x10 s0 = some r → Rl E (sh_ b) (nn b) s.heap M H locs → lv_has ls 11 [(0, .ref (eB E + 47)), (1, .int x1), (2, .int x2), (3, .int x3), (4, .int x4), (6, .int x6), (7, .int x7), (8, .int x8), (9, .int x9), (10, .int x10)] → W p l e (rm 3 0 0) s m args below meth c H locs 0 0 (MQ below (qq E (some (.int r)) (sh_ b) (nn b) M) args s 0 0 (fr E)) (F0 m 153 ls [.int s0]) := by
  obtain ⟨hx, hb, hr, hml, hown, hts, hK, hN, hO, hlk, hbs⟩ := id X
  intro x1 x2 x3 x4 x6 x7 x8 x9 x10 s0 H locs ls hf hR hl
  unfold fX11_sure_153 at hf
  refine lv_istore (lv' := [(5, .int s0), (0, .ref (eB E + 47)), (1, .int x1), (2, .int x2), (3, .int x3), (4, .int x4), (6, .int x6), (7, .int x7), (8, .int x8), (9, .int x9), (10, .int x10)]) hx hb dX11_sure_153 hl (by decide) rfl (fun ls hl => ?_)
  refine lv_iload hx hb dX11_sure_155 (lv_at hl 6 rfl) ?_
  refine lv_if_eq (tgt := 169) hx hb dX11_sure_157 (by decide) (fun q157 => ?_) (fun q157 => ?_)
  · have hf := (br_if hf).1 q157
    exact wX11_sure_169 X (fun hf hR hl => hk64 hf hR hl) (fun hf hR hl => hk195 hf hR hl) hf hR (lv_sub hl [1, 2, 3, 4, 5, 0, 7, 8, 9, 10] rfl)
  · have hf := (br_if hf).2 q157
    refine lv_iload hx hb dX11_sure_160 (lv_at hl 10 rfl) ?_
    refine lv_if_le (tgt := 169) hx hb dX11_sure_162 (by decide) (fun q162 => ?_) (fun q162 => ?_)
    · have hf := (br_if hf).1 q162
      exact wX11_sure_169 X (fun hf hR hl => hk64 hf hR hl) (fun hf hR hl => hk195 hf hR hl) hf hR (lv_sub hl [1, 2, 3, 4, 5, 0, 7, 8, 9, 10] rfl)
    · have hf := (br_if hf).2 q162
      refine lv_iconst (v := 1) hx hb dX11_sure_165 (by decide) ?_
      refine lv_goto (tgt := 170) hx hb dX11_sure_166 (by decide) ?_
      exact wX11_sure_170 X (fun hf hR hl => hk64 hf hR hl) (fun hf hR hl => hk195 hf hR hl) hf hR (lv_sub hl [1, 2, 3, 4, 5, 0, 7, 8, 9, 10] rfl)
set_option maxHeartbeats 4000000 in
set_option maxRecDepth 100000 in
theorem wX11_sure_152 {r : Int32} {M : Mem} {k64 : Int32 → Int32 → Int32 → Int32 → Int32 → Int32 → Int32 → Int32 → Int32 → Option Int32} {k195 : Int32 → Int32 → Int32 → Int32 → Int32 → Int32 → Int32 → Int32 → Option Int32} (X : CX E p s m args c meth cX11_sure 11 (some .int) RX11) (hk64 : ∀ {x1 : Int32} {x2 : Int32} {x3 : Int32} {x4 : Int32} {x5 : Int32} {x6 : Int32} {x7 : Int32} {x8 : Int32} {x9 : Int32} {H : Heap} {locs : List Loc} {ls : Array Slot}, k64 x1 x2 x3 x4 x5 x6 x7 x8 x9 = some r → Rl E (sh_ b) (nn b) s.heap M H locs → lv_has ls 11 [(0, .ref (eB E + 47)), (1, .int x1), (2, .int x2), (3, .int x3), (4, .int x4), (5, .int x5), (6, .int x6), (7, .int x7), (8, .int x8), (9, .int x9)] → W p l e (rm 3 0 0) s m args below meth c H locs 0 0 (MQ below (qq E (some (.int r)) (sh_ b) (nn b) M) args s 0 0 (fr E)) (F0 m 64 ls [])) (hk195 : ∀ {x1 : Int32} {x2 : Int32} {x3 : Int32} {x4 : Int32} {x5 : Int32} {x6 : Int32} {x7 : Int32} {x8 : Int32} {H : Heap} {locs : List Loc} {ls : Array Slot}, k195 x1 x2 x3 x4 x5 x6 x7 x8 = some r → Rl E (sh_ b) (nn b) s.heap M H locs → lv_has ls 11 [(0, .ref (eB E + 47)), (1, .int x1), (2, .int x2), (3, .int x3), (4, .int x4), (5, .int x5), (6, .int x6), (7, .int x7), (8, .int x8)] → W p l e (rm 3 0 0) s m args below meth c H locs 0 0 (MQ below (qq E (some (.int r)) (sh_ b) (nn b) M) args s 0 0 (fr E)) (F0 m 195 ls [])) : ∀ {x1 : Int32} {x2 : Int32} {x3 : Int32} {x4 : Int32} {x6 : Int32} {x7 : Int32} {x8 : Int32} {x9 : Int32} {x10 : Int32} {H : Heap} {locs : List Loc} {ls : Array Slot}, fX11_sure_152 M k64 k195 x1 x2 x3 x4 x6 x7 x8 x9 x10 = some r → Rl E (sh_ b) (nn b) s.heap M H locs → lv_has ls 11 [(0, .ref (eB E + 47)), (1, .int x1), (2, .int x2), (3, .int x3), (4, .int x4), (6, .int x6), (7, .int x7), (8, .int x8), (9, .int x9), (10, .int x10)] → W p l e (rm 3 0 0) s m args below meth c H locs 0 0 (MQ below (qq E (some (.int r)) (sh_ b) (nn b) M) args s 0 0 (fr E)) (F0 m 152 ls []) := by
  obtain ⟨hx, hb, hr, hml, hown, hts, hK, hN, hO, hlk, hbs⟩ := id X
  intro x1 x2 x3 x4 x6 x7 x8 x9 x10 H locs ls hf hR hl
  unfold fX11_sure_152 at hf
  refine lv_iconst (v := 0) hx hb dX11_sure_152 (by decide) ?_
  exact wX11_sure_153 X (fun hf hR hl => hk64 hf hR hl) (fun hf hR hl => hk195 hf hR hl) hf hR hl
set_option maxHeartbeats 4000000 in
set_option maxRecDepth 100000 in
theorem wX11_sure_64 {r : Int32} {M : Mem} {k195 : Int32 → Int32 → Int32 → Int32 → Int32 → Int32 → Int32 → Int32 → Option Int32} (X : CX E p s m args c meth cX11_sure 11 (some .int) RX11) (hk195 : ∀ {x1 : Int32} {x2 : Int32} {x3 : Int32} {x4 : Int32} {x5 : Int32} {x6 : Int32} {x7 : Int32} {x8 : Int32} {H : Heap} {locs : List Loc} {ls : Array Slot}, k195 x1 x2 x3 x4 x5 x6 x7 x8 = some r → Rl E (sh_ b) (nn b) s.heap M H locs → lv_has ls 11 [(0, .ref (eB E + 47)), (1, .int x1), (2, .int x2), (3, .int x3), (4, .int x4), (5, .int x5), (6, .int x6), (7, .int x7), (8, .int x8)] → W p l e (rm 3 0 0) s m args below meth c H locs 0 0 (MQ below (qq E (some (.int r)) (sh_ b) (nn b) M) args s 0 0 (fr E)) (F0 m 195 ls [])) : ∀ (n : Nat) {x1 : Int32} {x2 : Int32} {x3 : Int32} {x4 : Int32} {x5 : Int32} {x6 : Int32} {x7 : Int32} {x8 : Int32} {x9 : Int32} {H : Heap} {locs : List Loc} {ls : Array Slot}, fX11_sure_64 M k195 n x1 x2 x3 x4 x5 x6 x7 x8 x9 = some r → Rl E (sh_ b) (nn b) s.heap M H locs → lv_has ls 11 [(0, .ref (eB E + 47)), (1, .int x1), (2, .int x2), (3, .int x3), (4, .int x4), (5, .int x5), (6, .int x6), (7, .int x7), (8, .int x8), (9, .int x9)] → W p l e (rm 3 0 0) s m args below meth c H locs 0 0 (MQ below (qq E (some (.int r)) (sh_ b) (nn b) M) args s 0 0 (fr E)) (F0 m 64 ls []) := by
  obtain ⟨hx, hb, hr, hml, hown, hts, hK, hN, hO, hlk, hbs⟩ := id X
  intro n
  induction n with
  | zero =>
    intro x1 x2 x3 x4 x5 x6 x7 x8 x9 H locs ls hf hR hl
    exact absurd (show none = some _ from hf) (fun h => by cases h)
  | succ n ih =>
    intro x1 x2 x3 x4 x5 x6 x7 x8 x9 H locs ls hf hR hl
    rw [fX11_sure_64] at hf
    refine lv_iload hx hb dX11_sure_64 (lv_at hl 9 rfl) ?_
    refine lv_bipush (v := 99) hx hb dX11_sure_66 (by decide) ?_
    refine lv_aload_n hx hb dX11_sure_68 rfl (lv_at hl 0 rfl) ?_
    refine x_get hx hb hown hts hK hR kX11 (z_47 b) (j := 7) (by decide) fl_X11_18 (v := .ref (eB E + 52)) rfl dX11_sure_69 ?_
    refine lv_iconst (v := 0) hx hb dX11_sure_72 (by decide) ?_
    refine x_aald5 hx hb hK hR (z_52 b) (by decide) (r := 53) rfl dX11_sure_73 ?_
    refine lv_iload_n hx hb dX11_sure_74 rfl (lv_at hl 1 rfl) ?_
    obtain ⟨g75, hf⟩ := br_g hf
    refine x_iald hx hb hK hR (z_53 b) g75 dX11_sure_75 ?_
    refine lv_iload hx hb dX11_sure_76 (lv_at hl 4 rfl) ?_
    refine lv_iadd hx hb dX11_sure_78 ?_
    refine va_mmin hx hb (by rw [hml]; exact hl.1.symm) hown (hts _ ml_X11_198) (hts _ st_min) (hts _ in_J9) (hts _ co_min) (by decide) (Nat.le_of_ble_eq_true rfl) (Nat.zero_le _) (Nat.zero_le _) dX11_sure_79 ?_
    refine W.eq (g2 := F0 m 82 ls [.int (imin (99 : Int32) ((M.1 53 (ix x1)) + x4)), .int x9]) rfl ?_
    refine lv_icmp_gt (tgt := 195) hx hb dX11_sure_82 (by decide) (fun q82 => ?_) (fun q82 => ?_)
    · have hf := (br_if hf).1 q82
      exact hk195 hf hR (lv_sub hl [0, 1, 2, 3, 4, 5, 6, 7, 8] rfl)
    · have hf := (br_if hf).2 q82
      refine lv_aload_n hx hb dX11_sure_85 rfl (lv_at hl 0 rfl) ?_
      refine lv_iload_n hx hb dX11_sure_86 rfl (lv_at hl 1 rfl) ?_
      refine lv_iload hx hb dX11_sure_87 (lv_at hl 8 rfl) ?_
      refine lv_iload hx hb dX11_sure_89 (lv_at hl 9 rfl) ?_
      refine lv_aload_n hx hb dX11_sure_91 rfl (lv_at hl 0 rfl) ?_
      refine x_get hx hb hown hts hK hR kX11 (z_47 b) (j := 12) (by decide) fl_X11_33 (v := .ref (eB E + 67)) rfl dX11_sure_92 ?_
      refine lv_iconst (v := 0) hx hb dX11_sure_95 (by decide) ?_
      refine x_aald5 hx hb hK hR (z_67 b) (by decide) (r := 68) rfl dX11_sure_96 ?_
      refine lv_iload_n hx hb dX11_sure_97 rfl (lv_at hl 2 rfl) ?_
      obtain ⟨g98, hf⟩ := br_g hf
      refine x_iald hx hb hK hR (z_68 b) g98 dX11_sure_98 ?_
      refine lv_aload_n hx hb dX11_sure_99 rfl (lv_at hl 0 rfl) ?_
      refine x_get hx hb hown hts hK hR kX11 (z_47 b) (j := 13) (by decide) fl_X11_36 (v := .ref (eB E + 70)) rfl dX11_sure_100 ?_
      refine lv_iconst (v := 0) hx hb dX11_sure_103 (by decide) ?_
      refine x_aald5 hx hb hK hR (z_70 b) (by decide) (r := 71) rfl dX11_sure_104 ?_
      refine lv_iload_n hx hb dX11_sure_105 rfl (lv_at hl 2 rfl) ?_
      obtain ⟨g106, hf⟩ := br_g hf
      refine x_iald hx hb hK hR (z_71 b) g106 dX11_sure_106 ?_
      obtain ⟨q107, c107, hf⟩ := br_b hf
      refine x_callV (k := 47) (As := [.int x1, .int x8, .int x9, .int (M.1 68 (ix x2)), .int (M.1 71 (ix x2))]) (rest := []) (st1 := [.int q107]) X hR (ctX11_wayFrom c107) ml_X11_258 im_X11_wayFrom se_X11_wayFrom in_X11 co_X11_wayFrom yo_X11_wayFrom rfl kX11 (z_47 b) (rm_ok (by decide) (by decide)) rfl hl.1 rfl rfl (Nat.le_of_ble_eq_true rfl) dX11_sure_107 ⟨Nat.zero_le _, Nat.zero_le _⟩ (fun H locs hR => ?_)
      refine lv_aload_n hx hb dX11_sure_110 rfl (lv_at hl 0 rfl) ?_
      refine lv_iload_n hx hb dX11_sure_111 rfl (lv_at hl 1 rfl) ?_
      refine lv_iload hx hb dX11_sure_112 (lv_at hl 8 rfl) ?_
      refine lv_iload hx hb dX11_sure_114 (lv_at hl 9 rfl) ?_
      refine lv_aload_n hx hb dX11_sure_116 rfl (lv_at hl 0 rfl) ?_
      refine x_get hx hb hown hts hK hR kX11 (z_47 b) (j := 12) (by decide) fl_X11_33 (v := .ref (eB E + 67)) rfl dX11_sure_117 ?_
      refine lv_iconst (v := 0) hx hb dX11_sure_120 (by decide) ?_
      refine x_aald5 hx hb hK hR (z_67 b) (by decide) (r := 68) rfl dX11_sure_121 ?_
      refine lv_iload_n hx hb dX11_sure_122 rfl (lv_at hl 3 rfl) ?_
      obtain ⟨g123, hf⟩ := br_g hf
      refine x_iald hx hb hK hR (z_68 b) g123 dX11_sure_123 ?_
      refine lv_aload_n hx hb dX11_sure_124 rfl (lv_at hl 0 rfl) ?_
      refine x_get hx hb hown hts hK hR kX11 (z_47 b) (j := 13) (by decide) fl_X11_36 (v := .ref (eB E + 70)) rfl dX11_sure_125 ?_
      refine lv_iconst (v := 0) hx hb dX11_sure_128 (by decide) ?_
      refine x_aald5 hx hb hK hR (z_70 b) (by decide) (r := 71) rfl dX11_sure_129 ?_
      refine lv_iload_n hx hb dX11_sure_130 rfl (lv_at hl 3 rfl) ?_
      obtain ⟨g131, hf⟩ := br_g hf
      refine x_iald hx hb hK hR (z_71 b) g131 dX11_sure_131 ?_
      obtain ⟨q132, c132, hf⟩ := br_b hf
      refine x_callV (k := 47) (As := [.int x1, .int x8, .int x9, .int (M.1 68 (ix x3)), .int (M.1 71 (ix x3))]) (rest := [.int q107]) (st1 := [.int q132, .int q107]) X hR (ctX11_wayFrom c132) ml_X11_258 im_X11_wayFrom se_X11_wayFrom in_X11 co_X11_wayFrom yo_X11_wayFrom rfl kX11 (z_47 b) (rm_ok (by decide) (by decide)) rfl hl.1 rfl rfl (Nat.le_of_ble_eq_true rfl) dX11_sure_132 ⟨Nat.zero_le _, Nat.zero_le _⟩ (fun H locs hR => ?_)
      refine lv_isub hx hb dX11_sure_135 ?_
      refine lv_topi (fun v136 e136 => ?_)
      have hf := nx_at e136 hf
      refine lv_istore (lv' := [(10, .int v136), (0, .ref (eB E + 47)), (1, .int x1), (2, .int x2), (3, .int x3), (4, .int x4), (5, .int x5), (6, .int x6), (7, .int x7), (8, .int x8), (9, .int x9)]) hx hb dX11_sure_136 hl (by decide) rfl (fun ls hl => ?_)
      refine lv_iload hx hb dX11_sure_138 (lv_at hl 6 rfl) ?_
      refine lv_if_eq (tgt := 152) hx hb dX11_sure_140 (by decide) (fun q140 => ?_) (fun q140 => ?_)
      · have hf := (br_if hf).1 q140
        exact wX11_sure_152 X (fun hf hR hl => ih hf hR hl) (fun hf hR hl => hk195 hf hR hl) hf hR (lv_sub hl [1, 2, 3, 4, 5, 7, 8, 9, 10, 0] rfl)
      · have hf := (br_if hf).2 q140
        refine lv_iload hx hb dX11_sure_143 (lv_at hl 0 rfl) ?_
        refine lv_if_ge (tgt := 152) hx hb dX11_sure_145 (by decide) (fun q145 => ?_) (fun q145 => ?_)
        · have hf := (br_if hf).1 q145
          exact wX11_sure_152 X (fun hf hR hl => ih hf hR hl) (fun hf hR hl => hk195 hf hR hl) hf hR (lv_sub hl [1, 2, 3, 4, 5, 7, 8, 9, 10, 0] rfl)
        · have hf := (br_if hf).2 q145
          refine lv_iconst (v := 1) hx hb dX11_sure_148 (by decide) ?_
          refine lv_goto (tgt := 153) hx hb dX11_sure_149 (by decide) ?_
          exact wX11_sure_153 X (fun hf hR hl => ih hf hR hl) (fun hf hR hl => hk195 hf hR hl) hf hR (lv_sub hl [1, 2, 3, 4, 5, 7, 8, 9, 10, 0] rfl)
set_option maxHeartbeats 4000000 in
set_option maxRecDepth 100000 in
theorem wX11_sure_195 {r : Int32} {M : Mem} {k26 : Int32 → Int32 → Int32 → Int32 → Int32 → Int32 → Int32 → Int32 → Option Int32} {k201 : Int32 → Int32 → Int32 → Option Int32} (X : CX E p s m args c meth cX11_sure 11 (some .int) RX11) (hk26 : ∀ {x1 : Int32} {x2 : Int32} {x3 : Int32} {x4 : Int32} {x5 : Int32} {x6 : Int32} {x7 : Int32} {x8 : Int32} {H : Heap} {locs : List Loc} {ls : Array Slot}, k26 x1 x2 x3 x4 x5 x6 x7 x8 = some r → Rl E (sh_ b) (nn b) s.heap M H locs → lv_has ls 11 [(0, .ref (eB E + 47)), (1, .int x1), (2, .int x2), (3, .int x3), (4, .int x4), (5, .int x5), (6, .int x6), (7, .int x7), (8, .int x8)] → W p l e (rm 3 0 0) s m args below meth c H locs 0 0 (MQ below (qq E (some (.int r)) (sh_ b) (nn b) M) args s 0 0 (fr E)) (F0 m 26 ls [])) (hk201 : ∀ {x5 : Int32} {x6 : Int32} {x7 : Int32} {H : Heap} {locs : List Loc} {ls : Array Slot}, k201 x5 x6 x7 = some r → Rl E (sh_ b) (nn b) s.heap M H locs → lv_has ls 11 [(5, .int x5), (6, .int x6), (7, .int x7)] → W p l e (rm 3 0 0) s m args below meth c H locs 0 0 (MQ below (qq E (some (.int r)) (sh_ b) (nn b) M) args s 0 0 (fr E)) (F0 m 201 ls [])) : ∀ {x1 : Int32} {x2 : Int32} {x3 : Int32} {x4 : Int32} {x5 : Int32} {x6 : Int32} {x7 : Int32} {x8 : Int32} {H : Heap} {locs : List Loc} {ls : Array Slot}, fX11_sure_195 M k26 k201 x1 x2 x3 x4 x5 x6 x7 x8 = some r → Rl E (sh_ b) (nn b) s.heap M H locs → lv_has ls 11 [(0, .ref (eB E + 47)), (1, .int x1), (2, .int x2), (3, .int x3), (4, .int x4), (5, .int x5), (6, .int x6), (7, .int x7), (8, .int x8)] → W p l e (rm 3 0 0) s m args below meth c H locs 0 0 (MQ below (qq E (some (.int r)) (sh_ b) (nn b) M) args s 0 0 (fr E)) (F0 m 195 ls []) := by
  obtain ⟨hx, hb, hr, hml, hown, hts, hK, hN, hO, hlk, hbs⟩ := id X
  intro x1 x2 x3 x4 x5 x6 x7 x8 H locs ls hf hR hl
  unfold fX11_sure_195 at hf
  obtain ⟨v195, e195⟩ : ∃ y : Int32, y = (x8 + (1 : Int32)) := ⟨_, rfl⟩
  have hf := nx_at e195 hf
  refine lv_iinc (v := v195) (lv' := [(8, .int v195), (0, .ref (eB E + 47)), (1, .int x1), (2, .int x2), (3, .int x3), (4, .int x4), (5, .int x5), (6, .int x6), (7, .int x7)]) hx hb dX11_sure_195 hl (k := 8) rfl (by rw [e195]; rfl) (by decide) rfl (fun ls hl => ?_)
  refine lv_goto (tgt := 26) hx hb dX11_sure_198 (by decide) ?_
  exact hk26 hf hR (lv_sub hl [1, 2, 3, 4, 5, 6, 7, 8, 0] rfl)
set_option maxHeartbeats 4000000 in
set_option maxRecDepth 100000 in
theorem wX11_sure_26 {r : Int32} {M : Mem} {k201 : Int32 → Int32 → Int32 → Option Int32} (X : CX E p s m args c meth cX11_sure 11 (some .int) RX11) (hk201 : ∀ {x5 : Int32} {x6 : Int32} {x7 : Int32} {H : Heap} {locs : List Loc} {ls : Array Slot}, k201 x5 x6 x7 = some r → Rl E (sh_ b) (nn b) s.heap M H locs → lv_has ls 11 [(5, .int x5), (6, .int x6), (7, .int x7)] → W p l e (rm 3 0 0) s m args below meth c H locs 0 0 (MQ below (qq E (some (.int r)) (sh_ b) (nn b) M) args s 0 0 (fr E)) (F0 m 201 ls [])) : ∀ (n : Nat) {x1 : Int32} {x2 : Int32} {x3 : Int32} {x4 : Int32} {x5 : Int32} {x6 : Int32} {x7 : Int32} {x8 : Int32} {H : Heap} {locs : List Loc} {ls : Array Slot}, fX11_sure_26 M k201 n x1 x2 x3 x4 x5 x6 x7 x8 = some r → Rl E (sh_ b) (nn b) s.heap M H locs → lv_has ls 11 [(0, .ref (eB E + 47)), (1, .int x1), (2, .int x2), (3, .int x3), (4, .int x4), (5, .int x5), (6, .int x6), (7, .int x7), (8, .int x8)] → W p l e (rm 3 0 0) s m args below meth c H locs 0 0 (MQ below (qq E (some (.int r)) (sh_ b) (nn b) M) args s 0 0 (fr E)) (F0 m 26 ls []) := by
  obtain ⟨hx, hb, hr, hml, hown, hts, hK, hN, hO, hlk, hbs⟩ := id X
  intro n
  induction n with
  | zero =>
    intro x1 x2 x3 x4 x5 x6 x7 x8 H locs ls hf hR hl
    exact absurd (show none = some _ from hf) (fun h => by cases h)
  | succ n ih =>
    intro x1 x2 x3 x4 x5 x6 x7 x8 H locs ls hf hR hl
    rw [fX11_sure_26] at hf
    refine lv_iload hx hb dX11_sure_26 (lv_at hl 8 rfl) ?_
    refine lv_bipush (v := 99) hx hb dX11_sure_28 (by decide) ?_
    refine lv_aload_n hx hb dX11_sure_30 rfl (lv_at hl 0 rfl) ?_
    refine x_get hx hb hown hts hK hR kX11 (z_47 b) (j := 6) (by decide) fl_X11_15 (v := .ref (eB E + 49)) rfl dX11_sure_31 ?_
    refine lv_iconst (v := 0) hx hb dX11_sure_34 (by decide) ?_
    refine x_aald5 hx hb hK hR (z_49 b) (by decide) (r := 50) rfl dX11_sure_35 ?_
    refine lv_iload_n hx hb dX11_sure_36 rfl (lv_at hl 1 rfl) ?_
    obtain ⟨g37, hf⟩ := br_g hf
    refine x_iald hx hb hK hR (z_50 b) g37 dX11_sure_37 ?_
    refine lv_iload hx hb dX11_sure_38 (lv_at hl 4 rfl) ?_
    refine lv_iadd hx hb dX11_sure_40 ?_
    refine va_mmin hx hb (by rw [hml]; exact hl.1.symm) hown (hts _ ml_X11_198) (hts _ st_min) (hts _ in_J9) (hts _ co_min) (by decide) (Nat.le_of_ble_eq_true rfl) (Nat.zero_le _) (Nat.zero_le _) dX11_sure_41 ?_
    refine W.eq (g2 := F0 m 44 ls [.int (imin (99 : Int32) ((M.1 50 (ix x1)) + x4)), .int x8]) rfl ?_
    refine lv_icmp_gt (tgt := 201) hx hb dX11_sure_44 (by decide) (fun q44 => ?_) (fun q44 => ?_)
    · have hf := (br_if hf).1 q44
      exact hk201 hf hR (lv_sub hl [5, 6, 7] rfl)
    · have hf := (br_if hf).2 q44
      refine lv_iconst (v := 0) hx hb dX11_sure_47 (by decide) ?_
      refine lv_aload_n hx hb dX11_sure_48 rfl (lv_at hl 0 rfl) ?_
      refine x_get hx hb hown hts hK hR kX11 (z_47 b) (j := 7) (by decide) fl_X11_18 (v := .ref (eB E + 52)) rfl dX11_sure_49 ?_
      refine lv_iconst (v := 0) hx hb dX11_sure_52 (by decide) ?_
      refine x_aald5 hx hb hK hR (z_52 b) (by decide) (r := 53) rfl dX11_sure_53 ?_
      refine lv_iload_n hx hb dX11_sure_54 rfl (lv_at hl 1 rfl) ?_
      obtain ⟨g55, hf⟩ := br_g hf
      refine x_iald hx hb hK hR (z_53 b) g55 dX11_sure_55 ?_
      refine lv_iload hx hb dX11_sure_56 (lv_at hl 4 rfl) ?_
      refine lv_isub hx hb dX11_sure_58 ?_
      refine va_mmax hx hb (by rw [hml]; exact hl.1.symm) hown (hts _ ml_X11_192) (hts _ st_max) (hts _ in_J9) (hts _ co_max) (by decide) (Nat.le_of_ble_eq_true rfl) (Nat.zero_le _) (Nat.zero_le _) dX11_sure_59 ?_
      refine W.eq (g2 := F0 m 62 ls [.int (imax (0 : Int32) ((M.1 53 (ix x1)) - x4))]) rfl ?_
      refine lv_topi (fun v62 e62 => ?_)
      have hf := nx_at e62 hf
      refine lv_istore (lv' := [(9, .int v62), (0, .ref (eB E + 47)), (1, .int x1), (2, .int x2), (3, .int x3), (4, .int x4), (5, .int x5), (6, .int x6), (7, .int x7), (8, .int x8)]) hx hb dX11_sure_62 hl (by decide) rfl (fun ls hl => ?_)
      exact wX11_sure_64 X (fun hf hR hl => wX11_sure_195 X (fun hf hR hl => ih hf hR hl) (fun hf hR hl => hk201 hf hR hl) hf hR hl) FU hf hR (lv_sub hl [1, 2, 3, 4, 5, 6, 7, 8, 9, 0] rfl)
set_option maxHeartbeats 4000000 in
set_option maxRecDepth 100000 in
theorem wX11_sure_229 {r : Int32} {M : Mem} (X : CX E p s m args c meth cX11_sure 11 (some .int) RX11) : ∀ {s0 : Int32} {H : Heap} {locs : List Loc} {ls : Array Slot}, fX11_sure_229 M s0 = some r → Rl E (sh_ b) (nn b) s.heap M H locs → lv_has ls 11 [] → W p l e (rm 3 0 0) s m args below meth c H locs 0 0 (MQ below (qq E (some (.int r)) (sh_ b) (nn b) M) args s 0 0 (fr E)) (F0 m 229 ls [.int s0]) := by
  obtain ⟨hx, hb, hr, hml, hown, hts, hK, hN, hO, hlk, hbs⟩ := id X
  intro s0 H locs ls hf hR hl
  unfold fX11_sure_229 at hf
  cases hf
  exact x_iret hx hb hr hlk hR dX11_sure_229
set_option maxHeartbeats 4000000 in
set_option maxRecDepth 100000 in
theorem wX11_sure_201 {r : Int32} {M : Mem} (X : CX E p s m args c meth cX11_sure 11 (some .int) RX11) : ∀ {x5 : Int32} {x6 : Int32} {x7 : Int32} {H : Heap} {locs : List Loc} {ls : Array Slot}, fX11_sure_201 M x5 x6 x7 = some r → Rl E (sh_ b) (nn b) s.heap M H locs → lv_has ls 11 [(5, .int x5), (6, .int x6), (7, .int x7)] → W p l e (rm 3 0 0) s m args below meth c H locs 0 0 (MQ below (qq E (some (.int r)) (sh_ b) (nn b) M) args s 0 0 (fr E)) (F0 m 201 ls []) := by
  obtain ⟨hx, hb, hr, hml, hown, hts, hK, hN, hO, hlk, hbs⟩ := id X
  intro x5 x6 x7 H locs ls hf hR hl
  unfold fX11_sure_201 at hf
  refine lv_iload hx hb dX11_sure_201 (lv_at hl 0 rfl) ?_
  refine lv_if_eq (tgt := 210) hx hb dX11_sure_203 (by decide) (fun q203 => ?_) (fun q203 => ?_)
  · have hf := (br_if hf).1 q203
    refine lv_iload hx hb dX11_sure_210 (lv_at hl 1 rfl) ?_
    refine lv_if_eq (tgt := 219) hx hb dX11_sure_212 (by decide) (fun q212 => ?_) (fun q212 => ?_)
    · have hf := (br_if hf).1 q212
      refine lv_iload hx hb dX11_sure_219 (lv_at hl 2 rfl) ?_
      refine lv_if_eq (tgt := 228) hx hb dX11_sure_221 (by decide) (fun q221 => ?_) (fun q221 => ?_)
      · have hf := (br_if hf).1 q221
        refine lv_iconst (v := 0) hx hb dX11_sure_228 (by decide) ?_
        exact wX11_sure_229 X hf hR (lv_sub hl [] rfl)
      · have hf := (br_if hf).2 q221
        refine lv_iconst (v := 2) hx hb dX11_sure_224 (by decide) ?_
        refine lv_goto (tgt := 229) hx hb dX11_sure_225 (by decide) ?_
        exact wX11_sure_229 X hf hR (lv_sub hl [] rfl)
    · have hf := (br_if hf).2 q212
      refine lv_iconst (v := -1) hx hb dX11_sure_215 (by decide) ?_
      refine lv_goto (tgt := 229) hx hb dX11_sure_216 (by decide) ?_
      exact wX11_sure_229 X hf hR (lv_sub hl [] rfl)
  · have hf := (br_if hf).2 q203
    refine lv_iconst (v := 1) hx hb dX11_sure_206 (by decide) ?_
    refine lv_goto (tgt := 229) hx hb dX11_sure_207 (by decide) ?_
    exact wX11_sure_229 X hf hR (lv_sub hl [] rfl)
set_option maxHeartbeats 4000000 in
set_option maxRecDepth 100000 in
theorem wX11_sure_0 {r : Int32} {M : Mem} (X : CX E p s m args c meth cX11_sure 11 (some .int) RX11) : ∀ {x1 : Int32} {x2 : Int32} {x3 : Int32} {x4 : Int32} {H : Heap} {locs : List Loc} {ls : Array Slot}, fX11_sure M x1 x2 x3 x4 = some r → Rl E (sh_ b) (nn b) s.heap M H locs → lv_has ls 11 [(0, .ref (eB E + 47)), (1, .int x1), (2, .int x2), (3, .int x3), (4, .int x4)] → W p l e (rm 3 0 0) s m args below meth c H locs 0 0 (MQ below (qq E (some (.int r)) (sh_ b) (nn b) M) args s 0 0 (fr E)) (F0 m 0 ls []) := by
  obtain ⟨hx, hb, hr, hml, hown, hts, hK, hN, hO, hlk, hbs⟩ := id X
  intro x1 x2 x3 x4 H locs ls hf hR hl
  unfold fX11_sure at hf
  refine lv_iconst (v := 1) hx hb dX11_sure_0 (by decide) ?_
  refine lv_istore (lv' := [(5, .int (1 : Int32)), (0, .ref (eB E + 47)), (1, .int x1), (2, .int x2), (3, .int x3), (4, .int x4)]) hx hb dX11_sure_1 hl (by decide) rfl (fun ls hl => ?_)
  refine lv_iconst (v := 1) hx hb dX11_sure_3 (by decide) ?_
  refine lv_istore (lv' := [(6, .int (1 : Int32)), (5, .int (1 : Int32)), (0, .ref (eB E + 47)), (1, .int x1), (2, .int x2), (3, .int x3), (4, .int x4)]) hx hb dX11_sure_4 hl (by decide) rfl (fun ls hl => ?_)
  refine lv_iconst (v := 1) hx hb dX11_sure_6 (by decide) ?_
  refine lv_istore (lv' := [(7, .int (1 : Int32)), (6, .int (1 : Int32)), (5, .int (1 : Int32)), (0, .ref (eB E + 47)), (1, .int x1), (2, .int x2), (3, .int x3), (4, .int x4)]) hx hb dX11_sure_7 hl (by decide) rfl (fun ls hl => ?_)
  refine lv_iconst (v := 0) hx hb dX11_sure_9 (by decide) ?_
  refine lv_aload_n hx hb dX11_sure_10 rfl (lv_at hl 3 rfl) ?_
  refine x_get hx hb hown hts hK hR kX11 (z_47 b) (j := 6) (by decide) fl_X11_15 (v := .ref (eB E + 49)) rfl dX11_sure_11 ?_
  refine lv_iconst (v := 0) hx hb dX11_sure_14 (by decide) ?_
  refine x_aald5 hx hb hK hR (z_49 b) (by decide) (r := 50) rfl dX11_sure_15 ?_
  refine lv_iload_n hx hb dX11_sure_16 rfl (lv_at hl 4 rfl) ?_
  obtain ⟨g17, hf⟩ := br_g hf
  refine x_iald hx hb hK hR (z_50 b) g17 dX11_sure_17 ?_
  refine lv_iload hx hb dX11_sure_18 (lv_at hl 7 rfl) ?_
  refine lv_isub hx hb dX11_sure_20 ?_
  refine va_mmax hx hb (by rw [hml]; exact hl.1.symm) hown (hts _ ml_X11_192) (hts _ st_max) (hts _ in_J9) (hts _ co_max) (by decide) (Nat.le_of_ble_eq_true rfl) (Nat.zero_le _) (Nat.zero_le _) dX11_sure_21 ?_
  refine W.eq (g2 := F0 m 24 ls [.int (imax (0 : Int32) ((M.1 50 (ix x1)) - x4))]) rfl ?_
  refine lv_topi (fun v24 e24 => ?_)
  have hf := nx_at e24 hf
  refine lv_istore (lv' := [(8, .int v24), (7, .int (1 : Int32)), (6, .int (1 : Int32)), (5, .int (1 : Int32)), (0, .ref (eB E + 47)), (1, .int x1), (2, .int x2), (3, .int x3), (4, .int x4)]) hx hb dX11_sure_24 hl (by decide) rfl (fun ls hl => ?_)
  exact wX11_sure_26 X (fun hf hR hl => wX11_sure_201 X hf hR hl) FU hf hR (lv_sub hl [4, 5, 6, 7, 8, 3, 2, 1, 0] rfl)
theorem ctX11_sure {l : Launch} {E : Ge} {b : Bool} {M : Mem} {x1 : Int32} {x2 : Int32} {x3 : Int32} {x4 : Int32} {r : Int32} (h : fX11_sure M x1 x2 x3 x4 = some r) : CT l E yX11_sure cX11_sure 11 (some .int) 3 0 0 [.ref (eB E + 47), .int x1, .int x2, .int x3, .int x4] (some (.int r)) (sh_ b) (nn b) M (sh_ b) (nn b) M := by
  refine met_of (by decide) (Nat.le_of_ble_eq_true rfl) ?_
  intro p e s m args below meth c X _ hR ls hl
  exact wX11_sure_0 X h hR hl
def fX11_asks_117 (k18 : Int32 → Int32 → Int32 → Int32 → Mem → Option Mem) (k127 : Mem → Option Mem) (x1 : Int32) (x2 : Int32) (x3 : Int32) (x4 : Int32) (s1 : Int32) (s2 : Int32) (M : Mem) : Option Mem := nx (sI M 47 46 (s1 + s2)) (fun M118 => nx (x4 + (1 : Int32)) (fun v121 => k18 x1 x2 x3 v121 M118))
def fX11_asks_89 (k18 : Int32 → Int32 → Int32 → Int32 → Mem → Option Mem) (k127 : Mem → Option Mem) (x1 : Int32) (x2 : Int32) (x3 : Int32) (x4 : Int32) (x5 : Int32) (s1 : Int32) (s2 : Int32) (M : Mem) : Option Mem := nx (sI M 47 45 (s1 + s2)) (fun M90 => (if x5 = (-1 : Int32) then (if inb x4 15 = true then fX11_asks_117 k18 k127 x1 x2 x3 x4 ((M90.1 47 46)) ((M90.1 56 (ix x4))) M90 else none) else fX11_asks_117 k18 k127 x1 x2 x3 x4 ((M90.1 47 46)) (0 : Int32) M90))
def fX11_asks_61 (k18 : Int32 → Int32 → Int32 → Int32 → Mem → Option Mem) (k127 : Mem → Option Mem) (x1 : Int32) (x2 : Int32) (x3 : Int32) (x4 : Int32) (x5 : Int32) (s1 : Int32) (s2 : Int32) (M : Mem) : Option Mem := nx (sI M 47 44 (s1 + s2)) (fun M62 => (if x5 = (1 : Int32) then (if inb x4 15 = true then fX11_asks_89 k18 k127 x1 x2 x3 x4 x5 ((M62.1 47 45)) ((M62.1 56 (ix x4))) M62 else none) else fX11_asks_89 k18 k127 x1 x2 x3 x4 x5 ((M62.1 47 45)) (0 : Int32) M62))
def fX11_asks_18 (k127 : Mem → Option Mem) : Nat → Int32 → Int32 → Int32 → Int32 → Mem → Option Mem
  | 0, _, _, _, _, _ => none
  | n + 1, x1, x2, x3, x4, M => (fX11_voters M).bind (fun q21 => (if q21 ≤ x4 then k127 M else (fX11_sure M x4 x1 x2 x3).bind (fun q33 => (if q33 = 0 then (if inb x4 15 = true then fX11_asks_61 (fX11_asks_18 k127 n) k127 x1 x2 x3 x4 q33 ((M.1 47 44)) ((M.1 56 (ix x4))) M else none) else fX11_asks_61 (fX11_asks_18 k127 n) k127 x1 x2 x3 x4 q33 ((M.1 47 44)) (0 : Int32) M))))
def fX11_asks_127 (M : Mem) : Option Mem := some M
def fX11_asks (x1 : Int32) (x2 : Int32) (x3 : Int32) (M : Mem) : Option Mem := nx (sI M 47 44 (0 : Int32)) (fun M2 => nx (sI M2 47 45 (0 : Int32)) (fun M7 => nx (sI M7 47 46 (0 : Int32)) (fun M12 => fX11_asks_18 fX11_asks_127 FU x1 x2 x3 (0 : Int32) M12)))
set_option maxHeartbeats 4000000 in
set_option maxRecDepth 100000 in
theorem wX11_asks_117 {M1 : Mem} {k18 : Int32 → Int32 → Int32 → Int32 → Mem → Option Mem} {k127 : Mem → Option Mem} (X : CX E p s m args c meth cX11_asks 6 none RX11) (hk18 : ∀ {x1 : Int32} {x2 : Int32} {x3 : Int32} {x4 : Int32} {M : Mem} {H : Heap} {locs : List Loc} {ls : Array Slot}, k18 x1 x2 x3 x4 M = some M1 → Rl E (sh_ b) (nn b) s.heap M H locs → lv_has ls 6 [(0, .ref (eB E + 47)), (1, .int x1), (2, .int x2), (3, .int x3), (4, .int x4)] → W p l e (rm 4 0 0) s m args below meth c H locs 0 0 (MQ below (qq E none (sh_ b) (nn b) M1) args s 0 0 (fr E)) (F0 m 18 ls [])) (hk127 : ∀ {M : Mem} {H : Heap} {locs : List Loc} {ls : Array Slot}, k127 M = some M1 → Rl E (sh_ b) (nn b) s.heap M H locs → lv_has ls 6 [] → W p l e (rm 4 0 0) s m args below meth c H locs 0 0 (MQ below (qq E none (sh_ b) (nn b) M1) args s 0 0 (fr E)) (F0 m 127 ls [])) : ∀ {x1 : Int32} {x2 : Int32} {x3 : Int32} {x4 : Int32} {s1 : Int32} {s2 : Int32} {M : Mem} {H : Heap} {locs : List Loc} {ls : Array Slot}, fX11_asks_117 k18 k127 x1 x2 x3 x4 s1 s2 M = some M1 → Rl E (sh_ b) (nn b) s.heap M H locs → lv_has ls 6 [(0, .ref (eB E + 47)), (1, .int x1), (2, .int x2), (3, .int x3), (4, .int x4)] → W p l e (rm 4 0 0) s m args below meth c H locs 0 0 (MQ below (qq E none (sh_ b) (nn b) M1) args s 0 0 (fr E)) (F0 m 117 ls [.int s2, .int s1, .ref (eB E + 47)]) := by
  obtain ⟨hx, hb, hr, hml, hown, hts, hK, hN, hO, hlk, hbs⟩ := id X
  intro x1 x2 x3 x4 s1 s2 M H locs ls hf hR hl
  unfold fX11_asks_117 at hf
  refine lv_iadd hx hb dX11_asks_117 ?_
  refine x_puti hx hb hown hts hK hR kX11 (z_47 b) (j := 46) (by decide) fl_X11_416 rfl rfl rfl rfl dX11_asks_118 (fun H locs hR => ?_)
  obtain ⟨M118, e118⟩ : ∃ y : Mem, y = (sI M 47 46 (s1 + s2)) := ⟨_, rfl⟩
  have hf := nx_at e118 hf
  have hR : Rl E (sh_ b) (nn b) s.heap M118 H locs := by rw [e118]; exact hR
  obtain ⟨v121, e121⟩ : ∃ y : Int32, y = (x4 + (1 : Int32)) := ⟨_, rfl⟩
  have hf := nx_at e121 hf
  refine lv_iinc (v := v121) (lv' := [(4, .int v121), (0, .ref (eB E + 47)), (1, .int x1), (2, .int x2), (3, .int x3)]) hx hb dX11_asks_121 hl (k := 4) rfl (by rw [e121]; rfl) (by decide) rfl (fun ls hl => ?_)
  refine lv_goto (tgt := 18) hx hb dX11_asks_124 (by decide) ?_
  exact hk18 hf hR (lv_sub hl [1, 2, 3, 4, 0] rfl)
set_option maxHeartbeats 4000000 in
set_option maxRecDepth 100000 in
theorem wX11_asks_89 {M1 : Mem} {k18 : Int32 → Int32 → Int32 → Int32 → Mem → Option Mem} {k127 : Mem → Option Mem} (X : CX E p s m args c meth cX11_asks 6 none RX11) (hk18 : ∀ {x1 : Int32} {x2 : Int32} {x3 : Int32} {x4 : Int32} {M : Mem} {H : Heap} {locs : List Loc} {ls : Array Slot}, k18 x1 x2 x3 x4 M = some M1 → Rl E (sh_ b) (nn b) s.heap M H locs → lv_has ls 6 [(0, .ref (eB E + 47)), (1, .int x1), (2, .int x2), (3, .int x3), (4, .int x4)] → W p l e (rm 4 0 0) s m args below meth c H locs 0 0 (MQ below (qq E none (sh_ b) (nn b) M1) args s 0 0 (fr E)) (F0 m 18 ls [])) (hk127 : ∀ {M : Mem} {H : Heap} {locs : List Loc} {ls : Array Slot}, k127 M = some M1 → Rl E (sh_ b) (nn b) s.heap M H locs → lv_has ls 6 [] → W p l e (rm 4 0 0) s m args below meth c H locs 0 0 (MQ below (qq E none (sh_ b) (nn b) M1) args s 0 0 (fr E)) (F0 m 127 ls [])) : ∀ {x1 : Int32} {x2 : Int32} {x3 : Int32} {x4 : Int32} {x5 : Int32} {s1 : Int32} {s2 : Int32} {M : Mem} {H : Heap} {locs : List Loc} {ls : Array Slot}, fX11_asks_89 k18 k127 x1 x2 x3 x4 x5 s1 s2 M = some M1 → Rl E (sh_ b) (nn b) s.heap M H locs → lv_has ls 6 [(0, .ref (eB E + 47)), (1, .int x1), (2, .int x2), (3, .int x3), (4, .int x4), (5, .int x5)] → W p l e (rm 4 0 0) s m args below meth c H locs 0 0 (MQ below (qq E none (sh_ b) (nn b) M1) args s 0 0 (fr E)) (F0 m 89 ls [.int s2, .int s1, .ref (eB E + 47)]) := by
  obtain ⟨hx, hb, hr, hml, hown, hts, hK, hN, hO, hlk, hbs⟩ := id X
  intro x1 x2 x3 x4 x5 s1 s2 M H locs ls hf hR hl
  unfold fX11_asks_89 at hf
  refine lv_iadd hx hb dX11_asks_89 ?_
  refine x_puti hx hb hown hts hK hR kX11 (z_47 b) (j := 45) (by decide) fl_X11_413 rfl rfl rfl rfl dX11_asks_90 (fun H locs hR => ?_)
  obtain ⟨M90, e90⟩ : ∃ y : Mem, y = (sI M 47 45 (s1 + s2)) := ⟨_, rfl⟩
  have hf := nx_at e90 hf
  have hR : Rl E (sh_ b) (nn b) s.heap M90 H locs := by rw [e90]; exact hR
  refine lv_aload_n hx hb dX11_asks_93 rfl (lv_at hl 0 rfl) ?_
  refine lv_dup hx hb dX11_asks_94 rfl ?_
  refine x_get hx hb hown hts hK hR kX11 (z_47 b) (j := 46) (by decide) fl_X11_416 (v := .int (M90.1 47 46)) rfl dX11_asks_95 ?_
  refine lv_iload hx hb dX11_asks_98 (lv_at hl 5 rfl) ?_
  refine lv_iconst (v := -1) hx hb dX11_asks_100 (by decide) ?_
  refine lv_icmp_ne (tgt := 116) hx hb dX11_asks_101 (by decide) (fun q101 => ?_) (fun q101 => ?_)
  · have hf := (br_if hf).2 q101
    refine lv_iconst (v := 0) hx hb dX11_asks_116 (by decide) ?_
    exact wX11_asks_117 X (fun hf hR hl => hk18 hf hR hl) (fun hf hR hl => hk127 hf hR hl) hf hR (lv_sub hl [0, 1, 2, 3, 4] rfl)
  · have hf := (br_if hf).1 q101
    refine lv_aload_n hx hb dX11_asks_104 rfl (lv_at hl 0 rfl) ?_
    refine x_get hx hb hown hts hK hR kX11 (z_47 b) (j := 8) (by decide) fl_X11_21 (v := .ref (eB E + 55)) rfl dX11_asks_105 ?_
    refine lv_iconst (v := 0) hx hb dX11_asks_108 (by decide) ?_
    refine x_aald5 hx hb hK hR (z_55 b) (by decide) (r := 56) rfl dX11_asks_109 ?_
    refine lv_iload hx hb dX11_asks_110 (lv_at hl 4 rfl) ?_
    obtain ⟨g112, hf⟩ := br_g hf
    refine x_iald hx hb hK hR (z_56 b) g112 dX11_asks_112 ?_
    refine lv_goto (tgt := 117) hx hb dX11_asks_113 (by decide) ?_
    exact wX11_asks_117 X (fun hf hR hl => hk18 hf hR hl) (fun hf hR hl => hk127 hf hR hl) hf hR (lv_sub hl [0, 1, 2, 3, 4] rfl)
set_option maxHeartbeats 4000000 in
set_option maxRecDepth 100000 in
theorem wX11_asks_61 {M1 : Mem} {k18 : Int32 → Int32 → Int32 → Int32 → Mem → Option Mem} {k127 : Mem → Option Mem} (X : CX E p s m args c meth cX11_asks 6 none RX11) (hk18 : ∀ {x1 : Int32} {x2 : Int32} {x3 : Int32} {x4 : Int32} {M : Mem} {H : Heap} {locs : List Loc} {ls : Array Slot}, k18 x1 x2 x3 x4 M = some M1 → Rl E (sh_ b) (nn b) s.heap M H locs → lv_has ls 6 [(0, .ref (eB E + 47)), (1, .int x1), (2, .int x2), (3, .int x3), (4, .int x4)] → W p l e (rm 4 0 0) s m args below meth c H locs 0 0 (MQ below (qq E none (sh_ b) (nn b) M1) args s 0 0 (fr E)) (F0 m 18 ls [])) (hk127 : ∀ {M : Mem} {H : Heap} {locs : List Loc} {ls : Array Slot}, k127 M = some M1 → Rl E (sh_ b) (nn b) s.heap M H locs → lv_has ls 6 [] → W p l e (rm 4 0 0) s m args below meth c H locs 0 0 (MQ below (qq E none (sh_ b) (nn b) M1) args s 0 0 (fr E)) (F0 m 127 ls [])) : ∀ {x1 : Int32} {x2 : Int32} {x3 : Int32} {x4 : Int32} {x5 : Int32} {s1 : Int32} {s2 : Int32} {M : Mem} {H : Heap} {locs : List Loc} {ls : Array Slot}, fX11_asks_61 k18 k127 x1 x2 x3 x4 x5 s1 s2 M = some M1 → Rl E (sh_ b) (nn b) s.heap M H locs → lv_has ls 6 [(0, .ref (eB E + 47)), (1, .int x1), (2, .int x2), (3, .int x3), (4, .int x4), (5, .int x5)] → W p l e (rm 4 0 0) s m args below meth c H locs 0 0 (MQ below (qq E none (sh_ b) (nn b) M1) args s 0 0 (fr E)) (F0 m 61 ls [.int s2, .int s1, .ref (eB E + 47)]) := by
  obtain ⟨hx, hb, hr, hml, hown, hts, hK, hN, hO, hlk, hbs⟩ := id X
  intro x1 x2 x3 x4 x5 s1 s2 M H locs ls hf hR hl
  unfold fX11_asks_61 at hf
  refine lv_iadd hx hb dX11_asks_61 ?_
  refine x_puti hx hb hown hts hK hR kX11 (z_47 b) (j := 44) (by decide) fl_X11_410 rfl rfl rfl rfl dX11_asks_62 (fun H locs hR => ?_)
  obtain ⟨M62, e62⟩ : ∃ y : Mem, y = (sI M 47 44 (s1 + s2)) := ⟨_, rfl⟩
  have hf := nx_at e62 hf
  have hR : Rl E (sh_ b) (nn b) s.heap M62 H locs := by rw [e62]; exact hR
  refine lv_aload_n hx hb dX11_asks_65 rfl (lv_at hl 0 rfl) ?_
  refine lv_dup hx hb dX11_asks_66 rfl ?_
  refine x_get hx hb hown hts hK hR kX11 (z_47 b) (j := 45) (by decide) fl_X11_413 (v := .int (M62.1 47 45)) rfl dX11_asks_67 ?_
  refine lv_iload hx hb dX11_asks_70 (lv_at hl 5 rfl) ?_
  refine lv_iconst (v := 1) hx hb dX11_asks_72 (by decide) ?_
  refine lv_icmp_ne (tgt := 88) hx hb dX11_asks_73 (by decide) (fun q73 => ?_) (fun q73 => ?_)
  · have hf := (br_if hf).2 q73
    refine lv_iconst (v := 0) hx hb dX11_asks_88 (by decide) ?_
    exact wX11_asks_89 X (fun hf hR hl => hk18 hf hR hl) (fun hf hR hl => hk127 hf hR hl) hf hR hl
  · have hf := (br_if hf).1 q73
    refine lv_aload_n hx hb dX11_asks_76 rfl (lv_at hl 0 rfl) ?_
    refine x_get hx hb hown hts hK hR kX11 (z_47 b) (j := 8) (by decide) fl_X11_21 (v := .ref (eB E + 55)) rfl dX11_asks_77 ?_
    refine lv_iconst (v := 0) hx hb dX11_asks_80 (by decide) ?_
    refine x_aald5 hx hb hK hR (z_55 b) (by decide) (r := 56) rfl dX11_asks_81 ?_
    refine lv_iload hx hb dX11_asks_82 (lv_at hl 4 rfl) ?_
    obtain ⟨g84, hf⟩ := br_g hf
    refine x_iald hx hb hK hR (z_56 b) g84 dX11_asks_84 ?_
    refine lv_goto (tgt := 89) hx hb dX11_asks_85 (by decide) ?_
    exact wX11_asks_89 X (fun hf hR hl => hk18 hf hR hl) (fun hf hR hl => hk127 hf hR hl) hf hR hl
set_option maxHeartbeats 4000000 in
set_option maxRecDepth 100000 in
theorem wX11_asks_18 {M1 : Mem} {k127 : Mem → Option Mem} (X : CX E p s m args c meth cX11_asks 6 none RX11) (hk127 : ∀ {M : Mem} {H : Heap} {locs : List Loc} {ls : Array Slot}, k127 M = some M1 → Rl E (sh_ b) (nn b) s.heap M H locs → lv_has ls 6 [] → W p l e (rm 4 0 0) s m args below meth c H locs 0 0 (MQ below (qq E none (sh_ b) (nn b) M1) args s 0 0 (fr E)) (F0 m 127 ls [])) : ∀ (n : Nat) {x1 : Int32} {x2 : Int32} {x3 : Int32} {x4 : Int32} {M : Mem} {H : Heap} {locs : List Loc} {ls : Array Slot}, fX11_asks_18 k127 n x1 x2 x3 x4 M = some M1 → Rl E (sh_ b) (nn b) s.heap M H locs → lv_has ls 6 [(0, .ref (eB E + 47)), (1, .int x1), (2, .int x2), (3, .int x3), (4, .int x4)] → W p l e (rm 4 0 0) s m args below meth c H locs 0 0 (MQ below (qq E none (sh_ b) (nn b) M1) args s 0 0 (fr E)) (F0 m 18 ls []) := by
  obtain ⟨hx, hb, hr, hml, hown, hts, hK, hN, hO, hlk, hbs⟩ := id X
  intro n
  induction n with
  | zero =>
    intro x1 x2 x3 x4 M H locs ls hf hR hl
    exact absurd (show none = some _ from hf) (fun h => by cases h)
  | succ n ih =>
    intro x1 x2 x3 x4 M H locs ls hf hR hl
    rw [fX11_asks_18] at hf
    refine lv_iload hx hb dX11_asks_18 (lv_at hl 4 rfl) ?_
    refine lv_aload_n hx hb dX11_asks_20 rfl (lv_at hl 0 rfl) ?_
    obtain ⟨q21, c21, hf⟩ := br_b hf
    refine x_callV (k := 47) (As := []) (rest := [.int x4]) (st1 := [.int q21, .int x4]) X hR (ctX11_voters c21) ml_X11_237 im_X11_voters se_X11_voters in_X11 co_X11_voters yo_X11_voters rfl kX11 (z_47 b) (rm_ok (by decide) (by decide)) rfl hl.1 rfl rfl (Nat.le_of_ble_eq_true rfl) dX11_asks_21 ⟨Nat.zero_le _, Nat.zero_le _⟩ (fun H locs hR => ?_)
    refine lv_icmp_ge (tgt := 127) hx hb dX11_asks_24 (by decide) (fun q24 => ?_) (fun q24 => ?_)
    · have hf := (br_if hf).1 q24
      exact hk127 hf hR (lv_sub hl [] rfl)
    · have hf := (br_if hf).2 q24
      refine lv_aload_n hx hb dX11_asks_27 rfl (lv_at hl 0 rfl) ?_
      refine lv_iload hx hb dX11_asks_28 (lv_at hl 4 rfl) ?_
      refine lv_iload_n hx hb dX11_asks_30 rfl (lv_at hl 1 rfl) ?_
      refine lv_iload_n hx hb dX11_asks_31 rfl (lv_at hl 2 rfl) ?_
      refine lv_iload_n hx hb dX11_asks_32 rfl (lv_at hl 3 rfl) ?_
      obtain ⟨q33, c33, hf⟩ := br_b hf
      refine x_callV (k := 47) (As := [.int x4, .int x1, .int x2, .int x3]) (rest := []) (st1 := [.int q33]) X hR (ctX11_sure c33) ml_X11_419 im_X11_sure se_X11_sure in_X11 co_X11_sure yo_X11_sure rfl kX11 (z_47 b) (rm_ok (by decide) (by decide)) rfl hl.1 rfl rfl (Nat.le_of_ble_eq_true rfl) dX11_asks_33 ⟨Nat.zero_le _, Nat.zero_le _⟩ (fun H locs hR => ?_)
      refine lv_istore (lv' := [(5, .int q33), (0, .ref (eB E + 47)), (1, .int x1), (2, .int x2), (3, .int x3), (4, .int x4)]) hx hb dX11_asks_36 hl (by decide) rfl (fun ls hl => ?_)
      refine lv_aload_n hx hb dX11_asks_38 rfl (lv_at hl 1 rfl) ?_
      refine lv_dup hx hb dX11_asks_39 rfl ?_
      refine x_get hx hb hown hts hK hR kX11 (z_47 b) (j := 44) (by decide) fl_X11_410 (v := .int (M.1 47 44)) rfl dX11_asks_40 ?_
      refine lv_iload hx hb dX11_asks_43 (lv_at hl 0 rfl) ?_
      refine lv_if_ne (tgt := 60) hx hb dX11_asks_45 (by decide) (fun q45 => ?_) (fun q45 => ?_)
      · have hf := (br_if hf).2 q45
        refine lv_iconst (v := 0) hx hb dX11_asks_60 (by decide) ?_
        exact wX11_asks_61 X (fun hf hR hl => ih hf hR hl) (fun hf hR hl => hk127 hf hR hl) hf hR (lv_sub hl [1, 2, 3, 4, 5, 0] rfl)
      · have hf := (br_if hf).1 q45
        refine lv_aload_n hx hb dX11_asks_48 rfl (lv_at hl 1 rfl) ?_
        refine x_get hx hb hown hts hK hR kX11 (z_47 b) (j := 8) (by decide) fl_X11_21 (v := .ref (eB E + 55)) rfl dX11_asks_49 ?_
        refine lv_iconst (v := 0) hx hb dX11_asks_52 (by decide) ?_
        refine x_aald5 hx hb hK hR (z_55 b) (by decide) (r := 56) rfl dX11_asks_53 ?_
        refine lv_iload hx hb dX11_asks_54 (lv_at hl 5 rfl) ?_
        obtain ⟨g56, hf⟩ := br_g hf
        refine x_iald hx hb hK hR (z_56 b) g56 dX11_asks_56 ?_
        refine lv_goto (tgt := 61) hx hb dX11_asks_57 (by decide) ?_
        exact wX11_asks_61 X (fun hf hR hl => ih hf hR hl) (fun hf hR hl => hk127 hf hR hl) hf hR (lv_sub hl [1, 2, 3, 4, 5, 0] rfl)
set_option maxHeartbeats 4000000 in
set_option maxRecDepth 100000 in
theorem wX11_asks_127 {M1 : Mem} (X : CX E p s m args c meth cX11_asks 6 none RX11) : ∀ {M : Mem} {H : Heap} {locs : List Loc} {ls : Array Slot}, fX11_asks_127 M = some M1 → Rl E (sh_ b) (nn b) s.heap M H locs → lv_has ls 6 [] → W p l e (rm 4 0 0) s m args below meth c H locs 0 0 (MQ below (qq E none (sh_ b) (nn b) M1) args s 0 0 (fr E)) (F0 m 127 ls []) := by
  obtain ⟨hx, hb, hr, hml, hown, hts, hK, hN, hO, hlk, hbs⟩ := id X
  intro M H locs ls hf hR hl
  unfold fX11_asks_127 at hf
  cases hf
  exact x_vret hx hb hr hlk hR dX11_asks_127
set_option maxHeartbeats 4000000 in
set_option maxRecDepth 100000 in
theorem wX11_asks_0 {M1 : Mem} (X : CX E p s m args c meth cX11_asks 6 none RX11) : ∀ {x1 : Int32} {x2 : Int32} {x3 : Int32} {M : Mem} {H : Heap} {locs : List Loc} {ls : Array Slot}, fX11_asks x1 x2 x3 M = some M1 → Rl E (sh_ b) (nn b) s.heap M H locs → lv_has ls 6 [(0, .ref (eB E + 47)), (1, .int x1), (2, .int x2), (3, .int x3)] → W p l e (rm 4 0 0) s m args below meth c H locs 0 0 (MQ below (qq E none (sh_ b) (nn b) M1) args s 0 0 (fr E)) (F0 m 0 ls []) := by
  obtain ⟨hx, hb, hr, hml, hown, hts, hK, hN, hO, hlk, hbs⟩ := id X
  intro x1 x2 x3 M H locs ls hf hR hl
  unfold fX11_asks at hf
  refine lv_aload_n hx hb dX11_asks_0 rfl (lv_at hl 0 rfl) ?_
  refine lv_iconst (v := 0) hx hb dX11_asks_1 (by decide) ?_
  refine x_puti hx hb hown hts hK hR kX11 (z_47 b) (j := 44) (by decide) fl_X11_410 rfl rfl rfl rfl dX11_asks_2 (fun H locs hR => ?_)
  obtain ⟨M2, e2⟩ : ∃ y : Mem, y = (sI M 47 44 (0 : Int32)) := ⟨_, rfl⟩
  have hf := nx_at e2 hf
  have hR : Rl E (sh_ b) (nn b) s.heap M2 H locs := by rw [e2]; exact hR
  refine lv_aload_n hx hb dX11_asks_5 rfl (lv_at hl 0 rfl) ?_
  refine lv_iconst (v := 0) hx hb dX11_asks_6 (by decide) ?_
  refine x_puti hx hb hown hts hK hR kX11 (z_47 b) (j := 45) (by decide) fl_X11_413 rfl rfl rfl rfl dX11_asks_7 (fun H locs hR => ?_)
  obtain ⟨M7, e7⟩ : ∃ y : Mem, y = (sI M2 47 45 (0 : Int32)) := ⟨_, rfl⟩
  have hf := nx_at e7 hf
  have hR : Rl E (sh_ b) (nn b) s.heap M7 H locs := by rw [e7]; exact hR
  refine lv_aload_n hx hb dX11_asks_10 rfl (lv_at hl 0 rfl) ?_
  refine lv_iconst (v := 0) hx hb dX11_asks_11 (by decide) ?_
  refine x_puti hx hb hown hts hK hR kX11 (z_47 b) (j := 46) (by decide) fl_X11_416 rfl rfl rfl rfl dX11_asks_12 (fun H locs hR => ?_)
  obtain ⟨M12, e12⟩ : ∃ y : Mem, y = (sI M7 47 46 (0 : Int32)) := ⟨_, rfl⟩
  have hf := nx_at e12 hf
  have hR : Rl E (sh_ b) (nn b) s.heap M12 H locs := by rw [e12]; exact hR
  refine lv_iconst (v := 0) hx hb dX11_asks_15 (by decide) ?_
  refine lv_istore (lv' := [(4, .int (0 : Int32)), (0, .ref (eB E + 47)), (1, .int x1), (2, .int x2), (3, .int x3)]) hx hb dX11_asks_16 hl (by decide) rfl (fun ls hl => ?_)
  exact wX11_asks_18 X (fun hf hR hl => wX11_asks_127 X hf hR hl) FU hf hR (lv_sub hl [1, 2, 3, 4, 0] rfl)
theorem ctX11_asks {l : Launch} {E : Ge} {b : Bool} {M : Mem} {x1 : Int32} {x2 : Int32} {x3 : Int32} {M1 : Mem} (h : fX11_asks x1 x2 x3 M = some M1) : CT l E yX11_asks cX11_asks 6 none 4 0 0 [.ref (eB E + 47), .int x1, .int x2, .int x3] none (sh_ b) (nn b) M (sh_ b) (nn b) M1 := by
  refine met_of (by decide) (Nat.le_of_ble_eq_true rfl) ?_
  intro p e s m args below meth c X _ hR ls hl
  exact wX11_asks_0 X h hR hl
def fX11_places (M : Mem) : Option Int32 := some (M.1 74 (ix (0 : Int32)))
set_option maxHeartbeats 4000000 in
set_option maxRecDepth 100000 in
theorem wX11_places_0 {r : Int32} {M : Mem} (X : CX E p s m args c meth cX11_places 1 (some .int) RX11) : ∀ {H : Heap} {locs : List Loc} {ls : Array Slot}, fX11_places M = some r → Rl E (sh_ b) (nn b) s.heap M H locs → lv_has ls 1 [(0, .ref (eB E + 47))] → W p l e (rm 1 0 0) s m args below meth c H locs 0 0 (MQ below (qq E (some (.int r)) (sh_ b) (nn b) M) args s 0 0 (fr E)) (F0 m 0 ls []) := by
  obtain ⟨hx, hb, hr, hml, hown, hts, hK, hN, hO, hlk, hbs⟩ := id X
  intro H locs ls hf hR hl
  unfold fX11_places at hf
  refine lv_aload_n hx hb dX11_places_0 rfl (lv_at hl 0 rfl) ?_
  refine x_get hx hb hown hts hK hR kX11 (z_47 b) (j := 15) (by decide) fl_X11_43 (v := .ref (eB E + 74)) rfl dX11_places_1 ?_
  refine lv_iconst (v := 0) hx hb dX11_places_4 (by decide) ?_
  refine x_iald hx hb hK hR (z_74 b) (by decide) dX11_places_5 ?_
  cases hf
  exact x_iret hx hb hr hlk hR dX11_places_6
theorem ctX11_places {l : Launch} {E : Ge} {b : Bool} {M : Mem} {r : Int32} (h : fX11_places M = some r) : CT l E yX11_places cX11_places 1 (some .int) 1 0 0 [.ref (eB E + 47)] (some (.int r)) (sh_ b) (nn b) M (sh_ b) (nn b) M := by
  refine met_of (by decide) (Nat.le_of_ble_eq_true rfl) ?_
  intro p e s m args below meth c X _ hR ls hl
  exact wX11_places_0 X h hR hl
def fX11_in_18 (M : Mem) (s0 : Int32) : Option Int32 := some (s0 &&& 1)
def fX11_in_17 (M : Mem) : Option Int32 := fX11_in_18 M (0 : Int32)
def fX11_in (M : Mem) (y0 : Int64) (y2 : Int64) (y4 : Int64) : Option Int32 := (if (lg_cmp y0 y2) < 0 then fX11_in_17 M else (if 0 < (lg_cmp y0 y4) then fX11_in_17 M else fX11_in_18 M (1 : Int32)))
set_option maxHeartbeats 4000000 in
set_option maxRecDepth 100000 in
theorem wX11_in_18 {r : Int32} {M : Mem} (X : CX E p s m args c meth cX11_in 6 (some .boolean) RX11) : ∀ {s0 : Int32} {H : Heap} {locs : List Loc} {ls : Array Slot}, fX11_in_18 M s0 = some r → Rl E (sh_ b) (nn b) s.heap M H locs → lv_has ls 6 [] → W p l e (rm 1 0 0) s m args below meth c H locs 0 0 (MQ below (qq E (some (.int r)) (sh_ b) (nn b) M) args s 0 0 (fr E)) (F0 m 18 ls [.int s0]) := by
  obtain ⟨hx, hb, hr, hml, hown, hts, hK, hN, hO, hlk, hbs⟩ := id X
  intro s0 H locs ls hf hR hl
  unfold fX11_in_18 at hf
  cases hf
  exact x_zret hx hb hr hlk hR rfl dX11_in_18
set_option maxHeartbeats 4000000 in
set_option maxRecDepth 100000 in
theorem wX11_in_17 {r : Int32} {M : Mem} (X : CX E p s m args c meth cX11_in 6 (some .boolean) RX11) : ∀ {H : Heap} {locs : List Loc} {ls : Array Slot}, fX11_in_17 M = some r → Rl E (sh_ b) (nn b) s.heap M H locs → lv_has ls 6 [] → W p l e (rm 1 0 0) s m args below meth c H locs 0 0 (MQ below (qq E (some (.int r)) (sh_ b) (nn b) M) args s 0 0 (fr E)) (F0 m 17 ls []) := by
  obtain ⟨hx, hb, hr, hml, hown, hts, hK, hN, hO, hlk, hbs⟩ := id X
  intro H locs ls hf hR hl
  unfold fX11_in_17 at hf
  refine lv_iconst (v := 0) hx hb dX11_in_17 (by decide) ?_
  exact wX11_in_18 X hf hR hl
set_option maxHeartbeats 4000000 in
set_option maxRecDepth 100000 in
theorem wX11_in_0 {r : Int32} {M : Mem} (X : CX E p s m args c meth cX11_in 6 (some .boolean) RX11) : ∀ {y0 : Int64} {y2 : Int64} {y4 : Int64} {H : Heap} {locs : List Loc} {ls : Array Slot}, fX11_in M y0 y2 y4 = some r → Rl E (sh_ b) (nn b) s.heap M H locs → lv_has ls 6 [(0, .long y0), (2, .long y2), (4, .long y4)] → W p l e (rm 1 0 0) s m args below meth c H locs 0 0 (MQ below (qq E (some (.int r)) (sh_ b) (nn b) M) args s 0 0 (fr E)) (F0 m 0 ls []) := by
  obtain ⟨hx, hb, hr, hml, hown, hts, hK, hN, hO, hlk, hbs⟩ := id X
  intro y0 y2 y4 H locs ls hf hR hl
  unfold fX11_in at hf
  refine lv_lload_n hx hb dX11_in_0 rfl (lv_at hl 0 rfl) ?_
  refine lv_lload_n hx hb dX11_in_1 rfl (lv_at hl 1 rfl) ?_
  refine W.lcmp hx hb dX11_in_2 ?_
  refine lv_if_lt (tgt := 17) hx hb dX11_in_3 (by decide) (fun q3 => ?_) (fun q3 => ?_)
  · have hf := (br_if hf).1 q3
    exact wX11_in_17 X hf hR (lv_sub hl [] rfl)
  · have hf := (br_if hf).2 q3
    refine lv_lload_n hx hb dX11_in_6 rfl (lv_at hl 0 rfl) ?_
    refine lv_lload hx hb dX11_in_7 (lv_at hl 2 rfl) ?_
    refine W.lcmp hx hb dX11_in_9 ?_
    refine lv_if_gt (tgt := 17) hx hb dX11_in_10 (by decide) (fun q10 => ?_) (fun q10 => ?_)
    · have hf := (br_if hf).1 q10
      exact wX11_in_17 X hf hR (lv_sub hl [] rfl)
    · have hf := (br_if hf).2 q10
      refine lv_iconst (v := 1) hx hb dX11_in_13 (by decide) ?_
      refine lv_goto (tgt := 18) hx hb dX11_in_14 (by decide) ?_
      exact wX11_in_18 X hf hR (lv_sub hl [] rfl)
theorem ctX11_in {l : Launch} {E : Ge} {b : Bool} {M : Mem} {y0 : Int64} {y2 : Int64} {y4 : Int64} {r : Int32} (h : fX11_in M y0 y2 y4 = some r) : CT l E yX11_in cX11_in 6 (some .boolean) 1 0 0 [.long y0, .long y2, .long y4] (some (.int r)) (sh_ b) (nn b) M (sh_ b) (nn b) M := by
  refine met_of (by decide) (Nat.le_of_ble_eq_true rfl) ?_
  intro p e s m args below meth c X _ hR ls hl
  exact wX11_in_0 X h hR hl
def fX11_isPlace (M : Mem) (x1 : Int32) : Option Int32 := (fX11_places M).bind (fun q4 => (fX11_in M (x1.toInt64) (0 : Int64) ((q4 - (1 : Int32)).toInt64)).bind (fun q10 => some (q10 &&& 1)))
set_option maxHeartbeats 4000000 in
set_option maxRecDepth 100000 in
theorem wX11_isPlace_0 {r : Int32} {M : Mem} (X : CX E p s m args c meth cX11_isPlace 2 (some .boolean) RX11) : ∀ {x1 : Int32} {H : Heap} {locs : List Loc} {ls : Array Slot}, fX11_isPlace M x1 = some r → Rl E (sh_ b) (nn b) s.heap M H locs → lv_has ls 2 [(0, .ref (eB E + 47)), (1, .int x1)] → W p l e (rm 2 0 0) s m args below meth c H locs 0 0 (MQ below (qq E (some (.int r)) (sh_ b) (nn b) M) args s 0 0 (fr E)) (F0 m 0 ls []) := by
  obtain ⟨hx, hb, hr, hml, hown, hts, hK, hN, hO, hlk, hbs⟩ := id X
  intro x1 H locs ls hf hR hl
  unfold fX11_isPlace at hf
  refine lv_iload_n hx hb dX11_isPlace_0 rfl (lv_at hl 1 rfl) ?_
  refine lv_i2l (v := x1.toInt64) hx hb dX11_isPlace_1 rfl ?_
  refine lv_lconst (v := 0) hx hb dX11_isPlace_2 (by decide) ?_
  refine lv_aload_n hx hb dX11_isPlace_3 rfl (lv_at hl 0 rfl) ?_
  obtain ⟨q4, c4, hf⟩ := br_b hf
  refine x_callV (k := 47) (As := []) (rest := [.long (0 : Int64), .long x1.toInt64]) (st1 := [.int q4, .long (0 : Int64), .long x1.toInt64]) X hR (ctX11_places c4) ml_X11_242 im_X11_places se_X11_places in_X11 co_X11_places yo_X11_places rfl kX11 (z_47 b) (rm_ok (by decide) (by decide)) rfl hl.1 rfl rfl (Nat.le_of_ble_eq_true rfl) dX11_isPlace_4 ⟨Nat.zero_le _, Nat.zero_le _⟩ (fun H locs hR => ?_)
  refine lv_iconst (v := 1) hx hb dX11_isPlace_7 (by decide) ?_
  refine lv_isub hx hb dX11_isPlace_8 ?_
  refine lv_i2l (v := (q4 - (1 : Int32)).toInt64) hx hb dX11_isPlace_9 rfl ?_
  obtain ⟨q10, c10, hf⟩ := br_b hf
  refine x_callS (As := [.long x1.toInt64, .long (0 : Int64), .long (q4 - (1 : Int32)).toInt64]) (rest := []) (st1 := [.int q10]) X hR (ctX11_in c10) ml_X11_122 st_X11_in in_X11 co_X11_in yo_X11_in (rm_ok (by decide) (by decide)) rfl hl.1 rfl rfl (Nat.le_of_ble_eq_true rfl) dX11_isPlace_10 ⟨Nat.zero_le _, Nat.zero_le _⟩ (fun H locs hR => ?_)
  cases hf
  exact x_zret hx hb hr hlk hR rfl dX11_isPlace_13
theorem ctX11_isPlace {l : Launch} {E : Ge} {b : Bool} {M : Mem} {x1 : Int32} {r : Int32} (h : fX11_isPlace M x1 = some r) : CT l E yX11_isPlace cX11_isPlace 2 (some .boolean) 2 0 0 [.ref (eB E + 47), .int x1] (some (.int r)) (sh_ b) (nn b) M (sh_ b) (nn b) M := by
  refine met_of (by decide) (Nat.le_of_ble_eq_true rfl) ?_
  intro p e s m args below meth c X _ hR ls hl
  exact wX11_isPlace_0 X h hR hl
def fX11_wayOf (M : Mem) (x1 : Int32) (x2 : Int32) (x3 : Int32) : Option Int32 := (if inb x1 15 = true then (if inb x1 15 = true then (fX11_wayFrom M x1 (M.1 50 (ix x1)) (M.1 53 (ix x1)) x2 x3).bind (fun q20 => some q20) else none) else none)
set_option maxHeartbeats 4000000 in
set_option maxRecDepth 100000 in
theorem wX11_wayOf_0 {r : Int32} {M : Mem} (X : CX E p s m args c meth cX11_wayOf 4 (some .int) RX11) : ∀ {x1 : Int32} {x2 : Int32} {x3 : Int32} {H : Heap} {locs : List Loc} {ls : Array Slot}, fX11_wayOf M x1 x2 x3 = some r → Rl E (sh_ b) (nn b) s.heap M H locs → lv_has ls 4 [(0, .ref (eB E + 47)), (1, .int x1), (2, .int x2), (3, .int x3)] → W p l e (rm 3 0 0) s m args below meth c H locs 0 0 (MQ below (qq E (some (.int r)) (sh_ b) (nn b) M) args s 0 0 (fr E)) (F0 m 0 ls []) := by
  obtain ⟨hx, hb, hr, hml, hown, hts, hK, hN, hO, hlk, hbs⟩ := id X
  intro x1 x2 x3 H locs ls hf hR hl
  unfold fX11_wayOf at hf
  refine lv_aload_n hx hb dX11_wayOf_0 rfl (lv_at hl 0 rfl) ?_
  refine lv_iload_n hx hb dX11_wayOf_1 rfl (lv_at hl 1 rfl) ?_
  refine lv_aload_n hx hb dX11_wayOf_2 rfl (lv_at hl 0 rfl) ?_
  refine x_get hx hb hown hts hK hR kX11 (z_47 b) (j := 6) (by decide) fl_X11_15 (v := .ref (eB E + 49)) rfl dX11_wayOf_3 ?_
  refine lv_iconst (v := 0) hx hb dX11_wayOf_6 (by decide) ?_
  refine x_aald5 hx hb hK hR (z_49 b) (by decide) (r := 50) rfl dX11_wayOf_7 ?_
  refine lv_iload_n hx hb dX11_wayOf_8 rfl (lv_at hl 1 rfl) ?_
  obtain ⟨g9, hf⟩ := br_g hf
  refine x_iald hx hb hK hR (z_50 b) g9 dX11_wayOf_9 ?_
  refine lv_aload_n hx hb dX11_wayOf_10 rfl (lv_at hl 0 rfl) ?_
  refine x_get hx hb hown hts hK hR kX11 (z_47 b) (j := 7) (by decide) fl_X11_18 (v := .ref (eB E + 52)) rfl dX11_wayOf_11 ?_
  refine lv_iconst (v := 0) hx hb dX11_wayOf_14 (by decide) ?_
  refine x_aald5 hx hb hK hR (z_52 b) (by decide) (r := 53) rfl dX11_wayOf_15 ?_
  refine lv_iload_n hx hb dX11_wayOf_16 rfl (lv_at hl 1 rfl) ?_
  obtain ⟨g17, hf⟩ := br_g hf
  refine x_iald hx hb hK hR (z_53 b) g17 dX11_wayOf_17 ?_
  refine lv_iload_n hx hb dX11_wayOf_18 rfl (lv_at hl 2 rfl) ?_
  refine lv_iload_n hx hb dX11_wayOf_19 rfl (lv_at hl 3 rfl) ?_
  obtain ⟨q20, c20, hf⟩ := br_b hf
  refine x_callV (k := 47) (As := [.int x1, .int (M.1 50 (ix x1)), .int (M.1 53 (ix x1)), .int x2, .int x3]) (rest := []) (st1 := [.int q20]) X hR (ctX11_wayFrom c20) ml_X11_258 im_X11_wayFrom se_X11_wayFrom in_X11 co_X11_wayFrom yo_X11_wayFrom rfl kX11 (z_47 b) (rm_ok (by decide) (by decide)) rfl hl.1 rfl rfl (Nat.le_of_ble_eq_true rfl) dX11_wayOf_20 ⟨Nat.zero_le _, Nat.zero_le _⟩ (fun H locs hR => ?_)
  cases hf
  exact x_iret hx hb hr hlk hR dX11_wayOf_23
theorem ctX11_wayOf {l : Launch} {E : Ge} {b : Bool} {M : Mem} {x1 : Int32} {x2 : Int32} {x3 : Int32} {r : Int32} (h : fX11_wayOf M x1 x2 x3 = some r) : CT l E yX11_wayOf cX11_wayOf 4 (some .int) 3 0 0 [.ref (eB E + 47), .int x1, .int x2, .int x3] (some (.int r)) (sh_ b) (nn b) M (sh_ b) (nn b) M := by
  refine met_of (by decide) (Nat.le_of_ble_eq_true rfl) ?_
  intro p e s m args below meth c X _ hR ls hl
  exact wX11_wayOf_0 X h hR hl
def fX11_forOf_49 (M : Mem) (k6 : Int32 → Int32 → Int32 → Int32 → Int32 → Int32 → Option Int32) (k55 : Int32 → Option Int32) (x1 : Int32) (x2 : Int32) (x3 : Int32) (x4 : Int32) (x5 : Int32) (x6 : Int32) : Option Int32 := nx (x6 + (1 : Int32)) (fun v49 => k6 x1 x2 x3 x4 x5 v49)
def fX11_forOf_6 (M : Mem) (k55 : Int32 → Option Int32) : Nat → Int32 → Int32 → Int32 → Int32 → Int32 → Int32 → Option Int32
  | 0, _, _, _, _, _, _ => none
  | n + 1, x1, x2, x3, x4, x5, x6 => (fX11_voters M).bind (fun q9 => (if q9 ≤ x6 then k55 x5 else (fX11_wayOf M x6 x1 x2).bind (fun q20 => (fX11_wayOf M x6 x3 x4).bind (fun q29 => (if q29 ≤ q20 then fX11_forOf_49 M (fX11_forOf_6 M k55 n) k55 x1 x2 x3 x4 x5 x6 else (if inb x6 15 = true then nx (x5 + (M.1 56 (ix x6))) (fun v47 => fX11_forOf_49 M (fX11_forOf_6 M k55 n) k55 x1 x2 x3 x4 v47 x6) else none))))))
def fX11_forOf_55 (M : Mem) (x5 : Int32) : Option Int32 := some x5
def fX11_forOf (M : Mem) (x1 : Int32) (x2 : Int32) (x3 : Int32) (x4 : Int32) : Option Int32 := fX11_forOf_6 M (fX11_forOf_55 M) FU x1 x2 x3 x4 (0 : Int32) (0 : Int32)
set_option maxHeartbeats 4000000 in
set_option maxRecDepth 100000 in
theorem wX11_forOf_49 {r : Int32} {M : Mem} {k6 : Int32 → Int32 → Int32 → Int32 → Int32 → Int32 → Option Int32} {k55 : Int32 → Option Int32} (X : CX E p s m args c meth cX11_forOf 7 (some .int) RX11) (hk6 : ∀ {x1 : Int32} {x2 : Int32} {x3 : Int32} {x4 : Int32} {x5 : Int32} {x6 : Int32} {H : Heap} {locs : List Loc} {ls : Array Slot}, k6 x1 x2 x3 x4 x5 x6 = some r → Rl E (sh_ b) (nn b) s.heap M H locs → lv_has ls 7 [(0, .ref (eB E + 47)), (1, .int x1), (2, .int x2), (3, .int x3), (4, .int x4), (5, .int x5), (6, .int x6)] → W p l e (rm 4 0 0) s m args below meth c H locs 0 0 (MQ below (qq E (some (.int r)) (sh_ b) (nn b) M) args s 0 0 (fr E)) (F0 m 6 ls [])) (hk55 : ∀ {x5 : Int32} {H : Heap} {locs : List Loc} {ls : Array Slot}, k55 x5 = some r → Rl E (sh_ b) (nn b) s.heap M H locs → lv_has ls 7 [(5, .int x5)] → W p l e (rm 4 0 0) s m args below meth c H locs 0 0 (MQ below (qq E (some (.int r)) (sh_ b) (nn b) M) args s 0 0 (fr E)) (F0 m 55 ls [])) : ∀ {x1 : Int32} {x2 : Int32} {x3 : Int32} {x4 : Int32} {x5 : Int32} {x6 : Int32} {H : Heap} {locs : List Loc} {ls : Array Slot}, fX11_forOf_49 M k6 k55 x1 x2 x3 x4 x5 x6 = some r → Rl E (sh_ b) (nn b) s.heap M H locs → lv_has ls 7 [(0, .ref (eB E + 47)), (1, .int x1), (2, .int x2), (3, .int x3), (4, .int x4), (5, .int x5), (6, .int x6)] → W p l e (rm 4 0 0) s m args below meth c H locs 0 0 (MQ below (qq E (some (.int r)) (sh_ b) (nn b) M) args s 0 0 (fr E)) (F0 m 49 ls []) := by
  obtain ⟨hx, hb, hr, hml, hown, hts, hK, hN, hO, hlk, hbs⟩ := id X
  intro x1 x2 x3 x4 x5 x6 H locs ls hf hR hl
  unfold fX11_forOf_49 at hf
  obtain ⟨v49, e49⟩ : ∃ y : Int32, y = (x6 + (1 : Int32)) := ⟨_, rfl⟩
  have hf := nx_at e49 hf
  refine lv_iinc (v := v49) (lv' := [(6, .int v49), (0, .ref (eB E + 47)), (1, .int x1), (2, .int x2), (3, .int x3), (4, .int x4), (5, .int x5)]) hx hb dX11_forOf_49 hl (k := 6) rfl (by rw [e49]; rfl) (by decide) rfl (fun ls hl => ?_)
  refine lv_goto (tgt := 6) hx hb dX11_forOf_52 (by decide) ?_
  exact hk6 hf hR (lv_sub hl [1, 2, 3, 4, 5, 6, 0] rfl)
set_option maxHeartbeats 4000000 in
set_option maxRecDepth 100000 in
theorem wX11_forOf_6 {r : Int32} {M : Mem} {k55 : Int32 → Option Int32} (X : CX E p s m args c meth cX11_forOf 7 (some .int) RX11) (hk55 : ∀ {x5 : Int32} {H : Heap} {locs : List Loc} {ls : Array Slot}, k55 x5 = some r → Rl E (sh_ b) (nn b) s.heap M H locs → lv_has ls 7 [(5, .int x5)] → W p l e (rm 4 0 0) s m args below meth c H locs 0 0 (MQ below (qq E (some (.int r)) (sh_ b) (nn b) M) args s 0 0 (fr E)) (F0 m 55 ls [])) : ∀ (n : Nat) {x1 : Int32} {x2 : Int32} {x3 : Int32} {x4 : Int32} {x5 : Int32} {x6 : Int32} {H : Heap} {locs : List Loc} {ls : Array Slot}, fX11_forOf_6 M k55 n x1 x2 x3 x4 x5 x6 = some r → Rl E (sh_ b) (nn b) s.heap M H locs → lv_has ls 7 [(0, .ref (eB E + 47)), (1, .int x1), (2, .int x2), (3, .int x3), (4, .int x4), (5, .int x5), (6, .int x6)] → W p l e (rm 4 0 0) s m args below meth c H locs 0 0 (MQ below (qq E (some (.int r)) (sh_ b) (nn b) M) args s 0 0 (fr E)) (F0 m 6 ls []) := by
  obtain ⟨hx, hb, hr, hml, hown, hts, hK, hN, hO, hlk, hbs⟩ := id X
  intro n
  induction n with
  | zero =>
    intro x1 x2 x3 x4 x5 x6 H locs ls hf hR hl
    exact absurd (show none = some _ from hf) (fun h => by cases h)
  | succ n ih =>
    intro x1 x2 x3 x4 x5 x6 H locs ls hf hR hl
    rw [fX11_forOf_6] at hf
    refine lv_iload hx hb dX11_forOf_6 (lv_at hl 6 rfl) ?_
    refine lv_aload_n hx hb dX11_forOf_8 rfl (lv_at hl 0 rfl) ?_
    obtain ⟨q9, c9, hf⟩ := br_b hf
    refine x_callV (k := 47) (As := []) (rest := [.int x6]) (st1 := [.int q9, .int x6]) X hR (ctX11_voters c9) ml_X11_237 im_X11_voters se_X11_voters in_X11 co_X11_voters yo_X11_voters rfl kX11 (z_47 b) (rm_ok (by decide) (by decide)) rfl hl.1 rfl rfl (Nat.le_of_ble_eq_true rfl) dX11_forOf_9 ⟨Nat.zero_le _, Nat.zero_le _⟩ (fun H locs hR => ?_)
    refine lv_icmp_ge (tgt := 55) hx hb dX11_forOf_12 (by decide) (fun q12 => ?_) (fun q12 => ?_)
    · have hf := (br_if hf).1 q12
      exact hk55 hf hR (lv_sub hl [5] rfl)
    · have hf := (br_if hf).2 q12
      refine lv_aload_n hx hb dX11_forOf_15 rfl (lv_at hl 0 rfl) ?_
      refine lv_iload hx hb dX11_forOf_16 (lv_at hl 6 rfl) ?_
      refine lv_iload_n hx hb dX11_forOf_18 rfl (lv_at hl 1 rfl) ?_
      refine lv_iload_n hx hb dX11_forOf_19 rfl (lv_at hl 2 rfl) ?_
      obtain ⟨q20, c20, hf⟩ := br_b hf
      refine x_callV (k := 47) (As := [.int x6, .int x1, .int x2]) (rest := []) (st1 := [.int q20]) X hR (ctX11_wayOf c20) ml_X11_262 im_X11_wayOf se_X11_wayOf in_X11 co_X11_wayOf yo_X11_wayOf rfl kX11 (z_47 b) (rm_ok (by decide) (by decide)) rfl hl.1 rfl rfl (Nat.le_of_ble_eq_true rfl) dX11_forOf_20 ⟨Nat.zero_le _, Nat.zero_le _⟩ (fun H locs hR => ?_)
      refine lv_aload_n hx hb dX11_forOf_23 rfl (lv_at hl 0 rfl) ?_
      refine lv_iload hx hb dX11_forOf_24 (lv_at hl 6 rfl) ?_
      refine lv_iload_n hx hb dX11_forOf_26 rfl (lv_at hl 3 rfl) ?_
      refine lv_iload hx hb dX11_forOf_27 (lv_at hl 4 rfl) ?_
      obtain ⟨q29, c29, hf⟩ := br_b hf
      refine x_callV (k := 47) (As := [.int x6, .int x3, .int x4]) (rest := [.int q20]) (st1 := [.int q29, .int q20]) X hR (ctX11_wayOf c29) ml_X11_262 im_X11_wayOf se_X11_wayOf in_X11 co_X11_wayOf yo_X11_wayOf rfl kX11 (z_47 b) (rm_ok (by decide) (by decide)) rfl hl.1 rfl rfl (Nat.le_of_ble_eq_true rfl) dX11_forOf_29 ⟨Nat.zero_le _, Nat.zero_le _⟩ (fun H locs hR => ?_)
      refine lv_icmp_ge (tgt := 49) hx hb dX11_forOf_32 (by decide) (fun q32 => ?_) (fun q32 => ?_)
      · have hf := (br_if hf).1 q32
        exact wX11_forOf_49 X (fun hf hR hl => ih hf hR hl) (fun hf hR hl => hk55 hf hR hl) hf hR hl
      · have hf := (br_if hf).2 q32
        refine lv_iload hx hb dX11_forOf_35 (lv_at hl 5 rfl) ?_
        refine lv_aload_n hx hb dX11_forOf_37 rfl (lv_at hl 0 rfl) ?_
        refine x_get hx hb hown hts hK hR kX11 (z_47 b) (j := 8) (by decide) fl_X11_21 (v := .ref (eB E + 55)) rfl dX11_forOf_38 ?_
        refine lv_iconst (v := 0) hx hb dX11_forOf_41 (by decide) ?_
        refine x_aald5 hx hb hK hR (z_55 b) (by decide) (r := 56) rfl dX11_forOf_42 ?_
        refine lv_iload hx hb dX11_forOf_43 (lv_at hl 6 rfl) ?_
        obtain ⟨g45, hf⟩ := br_g hf
        refine x_iald hx hb hK hR (z_56 b) g45 dX11_forOf_45 ?_
        refine lv_iadd hx hb dX11_forOf_46 ?_
        refine lv_topi (fun v47 e47 => ?_)
        have hf := nx_at e47 hf
        refine lv_istore (lv' := [(5, .int v47), (0, .ref (eB E + 47)), (1, .int x1), (2, .int x2), (3, .int x3), (4, .int x4), (6, .int x6)]) hx hb dX11_forOf_47 hl (by decide) rfl (fun ls hl => ?_)
        exact wX11_forOf_49 X (fun hf hR hl => ih hf hR hl) (fun hf hR hl => hk55 hf hR hl) hf hR (lv_sub hl [1, 2, 3, 4, 5, 0, 6] rfl)
set_option maxHeartbeats 4000000 in
set_option maxRecDepth 100000 in
theorem wX11_forOf_55 {r : Int32} {M : Mem} (X : CX E p s m args c meth cX11_forOf 7 (some .int) RX11) : ∀ {x5 : Int32} {H : Heap} {locs : List Loc} {ls : Array Slot}, fX11_forOf_55 M x5 = some r → Rl E (sh_ b) (nn b) s.heap M H locs → lv_has ls 7 [(5, .int x5)] → W p l e (rm 4 0 0) s m args below meth c H locs 0 0 (MQ below (qq E (some (.int r)) (sh_ b) (nn b) M) args s 0 0 (fr E)) (F0 m 55 ls []) := by
  obtain ⟨hx, hb, hr, hml, hown, hts, hK, hN, hO, hlk, hbs⟩ := id X
  intro x5 H locs ls hf hR hl
  unfold fX11_forOf_55 at hf
  refine lv_iload hx hb dX11_forOf_55 (lv_at hl 0 rfl) ?_
  cases hf
  exact x_iret hx hb hr hlk hR dX11_forOf_57
set_option maxHeartbeats 4000000 in
set_option maxRecDepth 100000 in
theorem wX11_forOf_0 {r : Int32} {M : Mem} (X : CX E p s m args c meth cX11_forOf 7 (some .int) RX11) : ∀ {x1 : Int32} {x2 : Int32} {x3 : Int32} {x4 : Int32} {H : Heap} {locs : List Loc} {ls : Array Slot}, fX11_forOf M x1 x2 x3 x4 = some r → Rl E (sh_ b) (nn b) s.heap M H locs → lv_has ls 7 [(0, .ref (eB E + 47)), (1, .int x1), (2, .int x2), (3, .int x3), (4, .int x4)] → W p l e (rm 4 0 0) s m args below meth c H locs 0 0 (MQ below (qq E (some (.int r)) (sh_ b) (nn b) M) args s 0 0 (fr E)) (F0 m 0 ls []) := by
  obtain ⟨hx, hb, hr, hml, hown, hts, hK, hN, hO, hlk, hbs⟩ := id X
  intro x1 x2 x3 x4 H locs ls hf hR hl
  unfold fX11_forOf at hf
  refine lv_iconst (v := 0) hx hb dX11_forOf_0 (by decide) ?_
  refine lv_istore (lv' := [(5, .int (0 : Int32)), (0, .ref (eB E + 47)), (1, .int x1), (2, .int x2), (3, .int x3), (4, .int x4)]) hx hb dX11_forOf_1 hl (by decide) rfl (fun ls hl => ?_)
  refine lv_iconst (v := 0) hx hb dX11_forOf_3 (by decide) ?_
  refine lv_istore (lv' := [(6, .int (0 : Int32)), (5, .int (0 : Int32)), (0, .ref (eB E + 47)), (1, .int x1), (2, .int x2), (3, .int x3), (4, .int x4)]) hx hb dX11_forOf_4 hl (by decide) rfl (fun ls hl => ?_)
  exact wX11_forOf_6 X (fun hf hR hl => wX11_forOf_55 X hf hR hl) FU hf hR (lv_sub hl [2, 3, 4, 5, 6, 1, 0] rfl)
theorem ctX11_forOf {l : Launch} {E : Ge} {b : Bool} {M : Mem} {x1 : Int32} {x2 : Int32} {x3 : Int32} {x4 : Int32} {r : Int32} (h : fX11_forOf M x1 x2 x3 x4 = some r) : CT l E yX11_forOf cX11_forOf 7 (some .int) 4 0 0 [.ref (eB E + 47), .int x1, .int x2, .int x3, .int x4] (some (.int r)) (sh_ b) (nn b) M (sh_ b) (nn b) M := by
  refine met_of (by decide) (Nat.le_of_ble_eq_true rfl) ?_
  intro p e s m args below meth c X _ hR ls hl
  exact wX11_forOf_0 X h hR hl
def fX11_isWon_19 (M : Mem) (s0 : Int32) : Option Int32 := some (s0 &&& 1)
def fX11_isWon_84 (M : Mem) (s0 : Int32) : Option Int32 := some (s0 &&& 1)
def fX11_isWon_83 (M : Mem) : Option Int32 := fX11_isWon_84 M (0 : Int32)
def fX11_isWon (M : Mem) (x1 : Int32) (x2 : Int32) : Option Int32 := (if (M.1 75 (ix (0 : Int32))) = 0 then (if x1 ≤ x2 then fX11_isWon_19 M (0 : Int32) else fX11_isWon_19 M (1 : Int32)) else (fX11_total M).bind (fun q27 => nx ((M.1 76 (ix (0 : Int32))) * q27) (fun v31 => (if (M.1 75 (ix (0 : Int32))) = (1 : Int32) then (if (x1 * (M.1 77 (ix (0 : Int32)))) ≤ v31 then fX11_isWon_84 M (0 : Int32) else fX11_isWon_84 M (1 : Int32)) else (if (x1 * (M.1 77 (ix (0 : Int32)))) < v31 then fX11_isWon_83 M else (if x1 ≤ x2 then fX11_isWon_83 M else fX11_isWon_84 M (1 : Int32)))))))
set_option maxHeartbeats 4000000 in
set_option maxRecDepth 100000 in
theorem wX11_isWon_19 {r : Int32} {M : Mem} (X : CX E p s m args c meth cX11_isWon 4 (some .boolean) RX11) : ∀ {s0 : Int32} {H : Heap} {locs : List Loc} {ls : Array Slot}, fX11_isWon_19 M s0 = some r → Rl E (sh_ b) (nn b) s.heap M H locs → lv_has ls 4 [] → W p l e (rm 3 0 0) s m args below meth c H locs 0 0 (MQ below (qq E (some (.int r)) (sh_ b) (nn b) M) args s 0 0 (fr E)) (F0 m 19 ls [.int s0]) := by
  obtain ⟨hx, hb, hr, hml, hown, hts, hK, hN, hO, hlk, hbs⟩ := id X
  intro s0 H locs ls hf hR hl
  unfold fX11_isWon_19 at hf
  cases hf
  exact x_zret hx hb hr hlk hR rfl dX11_isWon_19
set_option maxHeartbeats 4000000 in
set_option maxRecDepth 100000 in
theorem wX11_isWon_84 {r : Int32} {M : Mem} (X : CX E p s m args c meth cX11_isWon 4 (some .boolean) RX11) : ∀ {s0 : Int32} {H : Heap} {locs : List Loc} {ls : Array Slot}, fX11_isWon_84 M s0 = some r → Rl E (sh_ b) (nn b) s.heap M H locs → lv_has ls 4 [] → W p l e (rm 3 0 0) s m args below meth c H locs 0 0 (MQ below (qq E (some (.int r)) (sh_ b) (nn b) M) args s 0 0 (fr E)) (F0 m 84 ls [.int s0]) := by
  obtain ⟨hx, hb, hr, hml, hown, hts, hK, hN, hO, hlk, hbs⟩ := id X
  intro s0 H locs ls hf hR hl
  unfold fX11_isWon_84 at hf
  cases hf
  exact x_zret hx hb hr hlk hR rfl dX11_isWon_84
set_option maxHeartbeats 4000000 in
set_option maxRecDepth 100000 in
theorem wX11_isWon_83 {r : Int32} {M : Mem} (X : CX E p s m args c meth cX11_isWon 4 (some .boolean) RX11) : ∀ {H : Heap} {locs : List Loc} {ls : Array Slot}, fX11_isWon_83 M = some r → Rl E (sh_ b) (nn b) s.heap M H locs → lv_has ls 4 [] → W p l e (rm 3 0 0) s m args below meth c H locs 0 0 (MQ below (qq E (some (.int r)) (sh_ b) (nn b) M) args s 0 0 (fr E)) (F0 m 83 ls []) := by
  obtain ⟨hx, hb, hr, hml, hown, hts, hK, hN, hO, hlk, hbs⟩ := id X
  intro H locs ls hf hR hl
  unfold fX11_isWon_83 at hf
  refine lv_iconst (v := 0) hx hb dX11_isWon_83 (by decide) ?_
  exact wX11_isWon_84 X hf hR hl
set_option maxHeartbeats 4000000 in
set_option maxRecDepth 100000 in
theorem wX11_isWon_0 {r : Int32} {M : Mem} (X : CX E p s m args c meth cX11_isWon 4 (some .boolean) RX11) : ∀ {x1 : Int32} {x2 : Int32} {H : Heap} {locs : List Loc} {ls : Array Slot}, fX11_isWon M x1 x2 = some r → Rl E (sh_ b) (nn b) s.heap M H locs → lv_has ls 4 [(0, .ref (eB E + 47)), (1, .int x1), (2, .int x2)] → W p l e (rm 3 0 0) s m args below meth c H locs 0 0 (MQ below (qq E (some (.int r)) (sh_ b) (nn b) M) args s 0 0 (fr E)) (F0 m 0 ls []) := by
  obtain ⟨hx, hb, hr, hml, hown, hts, hK, hN, hO, hlk, hbs⟩ := id X
  intro x1 x2 H locs ls hf hR hl
  unfold fX11_isWon at hf
  refine lv_aload_n hx hb dX11_isWon_0 rfl (lv_at hl 0 rfl) ?_
  refine x_get hx hb hown hts hK hR kX11 (z_47 b) (j := 16) (by decide) fl_X11_46 (v := .ref (eB E + 75)) rfl dX11_isWon_1 ?_
  refine lv_iconst (v := 0) hx hb dX11_isWon_4 (by decide) ?_
  refine x_iald hx hb hK hR (z_75 b) (by decide) dX11_isWon_5 ?_
  refine lv_if_ne (tgt := 20) hx hb dX11_isWon_6 (by decide) (fun q6 => ?_) (fun q6 => ?_)
  · have hf := (br_if hf).2 q6
    refine lv_aload_n hx hb dX11_isWon_20 rfl (lv_at hl 0 rfl) ?_
    refine x_get hx hb hown hts hK hR kX11 (z_47 b) (j := 17) (by decide) fl_X11_49 (v := .ref (eB E + 76)) rfl dX11_isWon_21 ?_
    refine lv_iconst (v := 0) hx hb dX11_isWon_24 (by decide) ?_
    refine x_iald hx hb hK hR (z_76 b) (by decide) dX11_isWon_25 ?_
    refine lv_aload_n hx hb dX11_isWon_26 rfl (lv_at hl 0 rfl) ?_
    obtain ⟨q27, c27, hf⟩ := br_b hf
    refine x_callV (k := 47) (As := []) (rest := [.int (M.1 76 (ix (0 : Int32)))]) (st1 := [.int q27, .int (M.1 76 (ix (0 : Int32)))]) X hR (ctX11_total c27) ml_X11_266 im_X11_total se_X11_total in_X11 co_X11_total yo_X11_total rfl kX11 (z_47 b) (rm_ok (by decide) (by decide)) rfl hl.1 rfl rfl (Nat.le_of_ble_eq_true rfl) dX11_isWon_27 ⟨Nat.zero_le _, Nat.zero_le _⟩ (fun H locs hR => ?_)
    refine lv_imul hx hb dX11_isWon_30 ?_
    refine lv_topi (fun v31 e31 => ?_)
    have hf := nx_at e31 hf
    refine lv_istore_n (lv' := [(3, .int v31), (0, .ref (eB E + 47)), (1, .int x1), (2, .int x2)]) hx hb dX11_isWon_31 rfl hl (by decide) rfl (fun ls hl => ?_)
    refine lv_aload_n hx hb dX11_isWon_32 rfl (lv_at hl 1 rfl) ?_
    refine x_get hx hb hown hts hK hR kX11 (z_47 b) (j := 16) (by decide) fl_X11_46 (v := .ref (eB E + 75)) rfl dX11_isWon_33 ?_
    refine lv_iconst (v := 0) hx hb dX11_isWon_36 (by decide) ?_
    refine x_iald hx hb hK hR (z_75 b) (by decide) dX11_isWon_37 ?_
    refine lv_iconst (v := 1) hx hb dX11_isWon_38 (by decide) ?_
    refine lv_icmp_ne (tgt := 62) hx hb dX11_isWon_39 (by decide) (fun q39 => ?_) (fun q39 => ?_)
    · have hf := (br_if hf).2 q39
      refine lv_iload_n hx hb dX11_isWon_62 rfl (lv_at hl 2 rfl) ?_
      refine lv_aload_n hx hb dX11_isWon_63 rfl (lv_at hl 1 rfl) ?_
      refine x_get hx hb hown hts hK hR kX11 (z_47 b) (j := 18) (by decide) fl_X11_52 (v := .ref (eB E + 77)) rfl dX11_isWon_64 ?_
      refine lv_iconst (v := 0) hx hb dX11_isWon_67 (by decide) ?_
      refine x_iald hx hb hK hR (z_77 b) (by decide) dX11_isWon_68 ?_
      refine lv_imul hx hb dX11_isWon_69 ?_
      refine lv_iload_n hx hb dX11_isWon_70 rfl (lv_at hl 0 rfl) ?_
      refine lv_icmp_lt (tgt := 83) hx hb dX11_isWon_71 (by decide) (fun q71 => ?_) (fun q71 => ?_)
      · have hf := (br_if hf).1 q71
        exact wX11_isWon_83 X hf hR (lv_sub hl [] rfl)
      · have hf := (br_if hf).2 q71
        refine lv_iload_n hx hb dX11_isWon_74 rfl (lv_at hl 2 rfl) ?_
        refine lv_iload_n hx hb dX11_isWon_75 rfl (lv_at hl 3 rfl) ?_
        refine lv_icmp_le (tgt := 83) hx hb dX11_isWon_76 (by decide) (fun q76 => ?_) (fun q76 => ?_)
        · have hf := (br_if hf).1 q76
          exact wX11_isWon_83 X hf hR (lv_sub hl [] rfl)
        · have hf := (br_if hf).2 q76
          refine lv_iconst (v := 1) hx hb dX11_isWon_79 (by decide) ?_
          refine lv_goto (tgt := 84) hx hb dX11_isWon_80 (by decide) ?_
          exact wX11_isWon_84 X hf hR (lv_sub hl [] rfl)
    · have hf := (br_if hf).1 q39
      refine lv_iload_n hx hb dX11_isWon_42 rfl (lv_at hl 2 rfl) ?_
      refine lv_aload_n hx hb dX11_isWon_43 rfl (lv_at hl 1 rfl) ?_
      refine x_get hx hb hown hts hK hR kX11 (z_47 b) (j := 18) (by decide) fl_X11_52 (v := .ref (eB E + 77)) rfl dX11_isWon_44 ?_
      refine lv_iconst (v := 0) hx hb dX11_isWon_47 (by decide) ?_
      refine x_iald hx hb hK hR (z_77 b) (by decide) dX11_isWon_48 ?_
      refine lv_imul hx hb dX11_isWon_49 ?_
      refine lv_iload_n hx hb dX11_isWon_50 rfl (lv_at hl 0 rfl) ?_
      refine lv_icmp_le (tgt := 58) hx hb dX11_isWon_51 (by decide) (fun q51 => ?_) (fun q51 => ?_)
      · have hf := (br_if hf).1 q51
        refine lv_iconst (v := 0) hx hb dX11_isWon_58 (by decide) ?_
        refine lv_goto (tgt := 84) hx hb dX11_isWon_59 (by decide) ?_
        exact wX11_isWon_84 X hf hR (lv_sub hl [] rfl)
      · have hf := (br_if hf).2 q51
        refine lv_iconst (v := 1) hx hb dX11_isWon_54 (by decide) ?_
        refine lv_goto (tgt := 84) hx hb dX11_isWon_55 (by decide) ?_
        exact wX11_isWon_84 X hf hR (lv_sub hl [] rfl)
  · have hf := (br_if hf).1 q6
    refine lv_iload_n hx hb dX11_isWon_9 rfl (lv_at hl 1 rfl) ?_
    refine lv_iload_n hx hb dX11_isWon_10 rfl (lv_at hl 2 rfl) ?_
    refine lv_icmp_le (tgt := 18) hx hb dX11_isWon_11 (by decide) (fun q11 => ?_) (fun q11 => ?_)
    · have hf := (br_if hf).1 q11
      refine lv_iconst (v := 0) hx hb dX11_isWon_18 (by decide) ?_
      exact wX11_isWon_19 X hf hR (lv_sub hl [] rfl)
    · have hf := (br_if hf).2 q11
      refine lv_iconst (v := 1) hx hb dX11_isWon_14 (by decide) ?_
      refine lv_goto (tgt := 19) hx hb dX11_isWon_15 (by decide) ?_
      exact wX11_isWon_19 X hf hR (lv_sub hl [] rfl)
theorem ctX11_isWon {l : Launch} {E : Ge} {b : Bool} {M : Mem} {x1 : Int32} {x2 : Int32} {r : Int32} (h : fX11_isWon M x1 x2 = some r) : CT l E yX11_isWon cX11_isWon 4 (some .boolean) 3 0 0 [.ref (eB E + 47), .int x1, .int x2] (some (.int r)) (sh_ b) (nn b) M (sh_ b) (nn b) M := by
  refine met_of (by decide) (Nat.le_of_ble_eq_true rfl) ?_
  intro p e s m args below meth c X _ hR ls hl
  exact wX11_isWon_0 X h hR hl
def fX11_beatsAt (M : Mem) (x1 : Int32) (x2 : Int32) (x3 : Int32) (x4 : Int32) : Option Int32 := (fX11_forOf M x1 x2 x3 x4).bind (fun q7 => (fX11_forOf M x3 x4 x1 x2).bind (fun q16 => (fX11_isWon M q7 q16).bind (fun q19 => some (q19 &&& 1))))
set_option maxHeartbeats 4000000 in
set_option maxRecDepth 100000 in
theorem wX11_beatsAt_0 {r : Int32} {M : Mem} (X : CX E p s m args c meth cX11_beatsAt 5 (some .boolean) RX11) : ∀ {x1 : Int32} {x2 : Int32} {x3 : Int32} {x4 : Int32} {H : Heap} {locs : List Loc} {ls : Array Slot}, fX11_beatsAt M x1 x2 x3 x4 = some r → Rl E (sh_ b) (nn b) s.heap M H locs → lv_has ls 5 [(0, .ref (eB E + 47)), (1, .int x1), (2, .int x2), (3, .int x3), (4, .int x4)] → W p l e (rm 5 0 0) s m args below meth c H locs 0 0 (MQ below (qq E (some (.int r)) (sh_ b) (nn b) M) args s 0 0 (fr E)) (F0 m 0 ls []) := by
  obtain ⟨hx, hb, hr, hml, hown, hts, hK, hN, hO, hlk, hbs⟩ := id X
  intro x1 x2 x3 x4 H locs ls hf hR hl
  unfold fX11_beatsAt at hf
  refine lv_aload_n hx hb dX11_beatsAt_0 rfl (lv_at hl 0 rfl) ?_
  refine lv_aload_n hx hb dX11_beatsAt_1 rfl (lv_at hl 0 rfl) ?_
  refine lv_iload_n hx hb dX11_beatsAt_2 rfl (lv_at hl 1 rfl) ?_
  refine lv_iload_n hx hb dX11_beatsAt_3 rfl (lv_at hl 2 rfl) ?_
  refine lv_iload_n hx hb dX11_beatsAt_4 rfl (lv_at hl 3 rfl) ?_
  refine lv_iload hx hb dX11_beatsAt_5 (lv_at hl 4 rfl) ?_
  obtain ⟨q7, c7, hf⟩ := br_b hf
  refine x_callV (k := 47) (As := [.int x1, .int x2, .int x3, .int x4]) (rest := [.ref (eB E + 47)]) (st1 := [.int q7, .ref (eB E + 47)]) X hR (ctX11_forOf c7) ml_X11_269 im_X11_forOf se_X11_forOf in_X11 co_X11_forOf yo_X11_forOf rfl kX11 (z_47 b) (rm_ok (by decide) (by decide)) rfl hl.1 rfl rfl (Nat.le_of_ble_eq_true rfl) dX11_beatsAt_7 ⟨Nat.zero_le _, Nat.zero_le _⟩ (fun H locs hR => ?_)
  refine lv_aload_n hx hb dX11_beatsAt_10 rfl (lv_at hl 0 rfl) ?_
  refine lv_iload_n hx hb dX11_beatsAt_11 rfl (lv_at hl 3 rfl) ?_
  refine lv_iload hx hb dX11_beatsAt_12 (lv_at hl 4 rfl) ?_
  refine lv_iload_n hx hb dX11_beatsAt_14 rfl (lv_at hl 1 rfl) ?_
  refine lv_iload_n hx hb dX11_beatsAt_15 rfl (lv_at hl 2 rfl) ?_
  obtain ⟨q16, c16, hf⟩ := br_b hf
  refine x_callV (k := 47) (As := [.int x3, .int x4, .int x1, .int x2]) (rest := [.int q7, .ref (eB E + 47)]) (st1 := [.int q16, .int q7, .ref (eB E + 47)]) X hR (ctX11_forOf c16) ml_X11_269 im_X11_forOf se_X11_forOf in_X11 co_X11_forOf yo_X11_forOf rfl kX11 (z_47 b) (rm_ok (by decide) (by decide)) rfl hl.1 rfl rfl (Nat.le_of_ble_eq_true rfl) dX11_beatsAt_16 ⟨Nat.zero_le _, Nat.zero_le _⟩ (fun H locs hR => ?_)
  obtain ⟨q19, c19, hf⟩ := br_b hf
  refine x_callV (k := 47) (As := [.int q7, .int q16]) (rest := []) (st1 := [.int q19]) X hR (ctX11_isWon c19) ml_X11_273 im_X11_isWon se_X11_isWon in_X11 co_X11_isWon yo_X11_isWon rfl kX11 (z_47 b) (rm_ok (by decide) (by decide)) rfl hl.1 rfl rfl (Nat.le_of_ble_eq_true rfl) dX11_beatsAt_19 ⟨Nat.zero_le _, Nat.zero_le _⟩ (fun H locs hR => ?_)
  cases hf
  exact x_zret hx hb hr hlk hR rfl dX11_beatsAt_22
theorem ctX11_beatsAt {l : Launch} {E : Ge} {b : Bool} {M : Mem} {x1 : Int32} {x2 : Int32} {x3 : Int32} {x4 : Int32} {r : Int32} (h : fX11_beatsAt M x1 x2 x3 x4 = some r) : CT l E yX11_beatsAt cX11_beatsAt 5 (some .boolean) 5 0 0 [.ref (eB E + 47), .int x1, .int x2, .int x3, .int x4] (some (.int r)) (sh_ b) (nn b) M (sh_ b) (nn b) M := by
  refine met_of (by decide) (Nat.le_of_ble_eq_true rfl) ?_
  intro p e s m args below meth c X _ hR ls hl
  exact wX11_beatsAt_0 X h hR hl
def fX11_beatsOf (M : Mem) (x1 : Int32) (x2 : Int32) : Option Int32 := (if inb x1 20 = true then (if inb x1 20 = true then (if inb x2 20 = true then (if inb x2 20 = true then (fX11_beatsAt M (M.1 68 (ix x1)) (M.1 71 (ix x1)) (M.1 68 (ix x2)) (M.1 71 (ix x2))).bind (fun q33 => some (q33 &&& 1)) else none) else none) else none) else none)
set_option maxHeartbeats 4000000 in
set_option maxRecDepth 100000 in
theorem wX11_beatsOf_0 {r : Int32} {M : Mem} (X : CX E p s m args c meth cX11_beatsOf 3 (some .boolean) RX11) : ∀ {x1 : Int32} {x2 : Int32} {H : Heap} {locs : List Loc} {ls : Array Slot}, fX11_beatsOf M x1 x2 = some r → Rl E (sh_ b) (nn b) s.heap M H locs → lv_has ls 3 [(0, .ref (eB E + 47)), (1, .int x1), (2, .int x2)] → W p l e (rm 6 0 0) s m args below meth c H locs 0 0 (MQ below (qq E (some (.int r)) (sh_ b) (nn b) M) args s 0 0 (fr E)) (F0 m 0 ls []) := by
  obtain ⟨hx, hb, hr, hml, hown, hts, hK, hN, hO, hlk, hbs⟩ := id X
  intro x1 x2 H locs ls hf hR hl
  unfold fX11_beatsOf at hf
  refine lv_aload_n hx hb dX11_beatsOf_0 rfl (lv_at hl 0 rfl) ?_
  refine lv_aload_n hx hb dX11_beatsOf_1 rfl (lv_at hl 0 rfl) ?_
  refine x_get hx hb hown hts hK hR kX11 (z_47 b) (j := 12) (by decide) fl_X11_33 (v := .ref (eB E + 67)) rfl dX11_beatsOf_2 ?_
  refine lv_iconst (v := 0) hx hb dX11_beatsOf_5 (by decide) ?_
  refine x_aald5 hx hb hK hR (z_67 b) (by decide) (r := 68) rfl dX11_beatsOf_6 ?_
  refine lv_iload_n hx hb dX11_beatsOf_7 rfl (lv_at hl 1 rfl) ?_
  obtain ⟨g8, hf⟩ := br_g hf
  refine x_iald hx hb hK hR (z_68 b) g8 dX11_beatsOf_8 ?_
  refine lv_aload_n hx hb dX11_beatsOf_9 rfl (lv_at hl 0 rfl) ?_
  refine x_get hx hb hown hts hK hR kX11 (z_47 b) (j := 13) (by decide) fl_X11_36 (v := .ref (eB E + 70)) rfl dX11_beatsOf_10 ?_
  refine lv_iconst (v := 0) hx hb dX11_beatsOf_13 (by decide) ?_
  refine x_aald5 hx hb hK hR (z_70 b) (by decide) (r := 71) rfl dX11_beatsOf_14 ?_
  refine lv_iload_n hx hb dX11_beatsOf_15 rfl (lv_at hl 1 rfl) ?_
  obtain ⟨g16, hf⟩ := br_g hf
  refine x_iald hx hb hK hR (z_71 b) g16 dX11_beatsOf_16 ?_
  refine lv_aload_n hx hb dX11_beatsOf_17 rfl (lv_at hl 0 rfl) ?_
  refine x_get hx hb hown hts hK hR kX11 (z_47 b) (j := 12) (by decide) fl_X11_33 (v := .ref (eB E + 67)) rfl dX11_beatsOf_18 ?_
  refine lv_iconst (v := 0) hx hb dX11_beatsOf_21 (by decide) ?_
  refine x_aald5 hx hb hK hR (z_67 b) (by decide) (r := 68) rfl dX11_beatsOf_22 ?_
  refine lv_iload_n hx hb dX11_beatsOf_23 rfl (lv_at hl 2 rfl) ?_
  obtain ⟨g24, hf⟩ := br_g hf
  refine x_iald hx hb hK hR (z_68 b) g24 dX11_beatsOf_24 ?_
  refine lv_aload_n hx hb dX11_beatsOf_25 rfl (lv_at hl 0 rfl) ?_
  refine x_get hx hb hown hts hK hR kX11 (z_47 b) (j := 13) (by decide) fl_X11_36 (v := .ref (eB E + 70)) rfl dX11_beatsOf_26 ?_
  refine lv_iconst (v := 0) hx hb dX11_beatsOf_29 (by decide) ?_
  refine x_aald5 hx hb hK hR (z_70 b) (by decide) (r := 71) rfl dX11_beatsOf_30 ?_
  refine lv_iload_n hx hb dX11_beatsOf_31 rfl (lv_at hl 2 rfl) ?_
  obtain ⟨g32, hf⟩ := br_g hf
  refine x_iald hx hb hK hR (z_71 b) g32 dX11_beatsOf_32 ?_
  obtain ⟨q33, c33, hf⟩ := br_b hf
  refine x_callV (k := 47) (As := [.int (M.1 68 (ix x1)), .int (M.1 71 (ix x1)), .int (M.1 68 (ix x2)), .int (M.1 71 (ix x2))]) (rest := []) (st1 := [.int q33]) X hR (ctX11_beatsAt c33) ml_X11_276 im_X11_beatsAt se_X11_beatsAt in_X11 co_X11_beatsAt yo_X11_beatsAt rfl kX11 (z_47 b) (rm_ok (by decide) (by decide)) rfl hl.1 rfl rfl (Nat.le_of_ble_eq_true rfl) dX11_beatsOf_33 ⟨Nat.zero_le _, Nat.zero_le _⟩ (fun H locs hR => ?_)
  cases hf
  exact x_zret hx hb hr hlk hR rfl dX11_beatsOf_36
theorem ctX11_beatsOf {l : Launch} {E : Ge} {b : Bool} {M : Mem} {x1 : Int32} {x2 : Int32} {r : Int32} (h : fX11_beatsOf M x1 x2 = some r) : CT l E yX11_beatsOf cX11_beatsOf 3 (some .boolean) 6 0 0 [.ref (eB E + 47), .int x1, .int x2] (some (.int r)) (sh_ b) (nn b) M (sh_ b) (nn b) M := by
  refine met_of (by decide) (Nat.le_of_ble_eq_true rfl) ?_
  intro p e s m args below meth c X _ hR ls hl
  exact wX11_beatsOf_0 X h hR hl
def fX11_beats_30 (M : Mem) (s0 : Int32) : Option Int32 := some (s0 &&& 1)
def fX11_beats_29 (M : Mem) : Option Int32 := fX11_beats_30 M (0 : Int32)
def fX11_beats (M : Mem) (x1 : Int32) (x2 : Int32) : Option Int32 := (fX11_isPlace M x1).bind (fun q2 => (if q2 = 0 then fX11_beats_29 M else (fX11_isPlace M x2).bind (fun q10 => (if q10 = 0 then fX11_beats_29 M else (fX11_beatsOf M x1 x2).bind (fun q19 => (if q19 = 0 then fX11_beats_29 M else fX11_beats_30 M (1 : Int32)))))))
set_option maxHeartbeats 4000000 in
set_option maxRecDepth 100000 in
theorem wX11_beats_30 {r : Int32} {M : Mem} (X : CX E p s m args c meth cX11_beats 3 (some .boolean) RX11) : ∀ {s0 : Int32} {H : Heap} {locs : List Loc} {ls : Array Slot}, fX11_beats_30 M s0 = some r → Rl E (sh_ b) (nn b) s.heap M H locs → lv_has ls 3 [] → W p l e (rm 7 0 0) s m args below meth c H locs 0 0 (MQ below (qq E (some (.int r)) (sh_ b) (nn b) M) args s 0 0 (fr E)) (F0 m 30 ls [.int s0]) := by
  obtain ⟨hx, hb, hr, hml, hown, hts, hK, hN, hO, hlk, hbs⟩ := id X
  intro s0 H locs ls hf hR hl
  unfold fX11_beats_30 at hf
  cases hf
  exact x_zret hx hb hr hlk hR rfl dX11_beats_30
set_option maxHeartbeats 4000000 in
set_option maxRecDepth 100000 in
theorem wX11_beats_29 {r : Int32} {M : Mem} (X : CX E p s m args c meth cX11_beats 3 (some .boolean) RX11) : ∀ {H : Heap} {locs : List Loc} {ls : Array Slot}, fX11_beats_29 M = some r → Rl E (sh_ b) (nn b) s.heap M H locs → lv_has ls 3 [] → W p l e (rm 7 0 0) s m args below meth c H locs 0 0 (MQ below (qq E (some (.int r)) (sh_ b) (nn b) M) args s 0 0 (fr E)) (F0 m 29 ls []) := by
  obtain ⟨hx, hb, hr, hml, hown, hts, hK, hN, hO, hlk, hbs⟩ := id X
  intro H locs ls hf hR hl
  unfold fX11_beats_29 at hf
  refine lv_iconst (v := 0) hx hb dX11_beats_29 (by decide) ?_
  exact wX11_beats_30 X hf hR hl
set_option maxHeartbeats 4000000 in
set_option maxRecDepth 100000 in
theorem wX11_beats_0 {r : Int32} {M : Mem} (X : CX E p s m args c meth cX11_beats 3 (some .boolean) RX11) : ∀ {x1 : Int32} {x2 : Int32} {H : Heap} {locs : List Loc} {ls : Array Slot}, fX11_beats M x1 x2 = some r → Rl E (sh_ b) (nn b) s.heap M H locs → lv_has ls 3 [(0, .ref (eB E + 47)), (1, .int x1), (2, .int x2)] → W p l e (rm 7 0 0) s m args below meth c H locs 0 0 (MQ below (qq E (some (.int r)) (sh_ b) (nn b) M) args s 0 0 (fr E)) (F0 m 0 ls []) := by
  obtain ⟨hx, hb, hr, hml, hown, hts, hK, hN, hO, hlk, hbs⟩ := id X
  intro x1 x2 H locs ls hf hR hl
  unfold fX11_beats at hf
  refine lv_aload_n hx hb dX11_beats_0 rfl (lv_at hl 0 rfl) ?_
  refine lv_iload_n hx hb dX11_beats_1 rfl (lv_at hl 1 rfl) ?_
  obtain ⟨q2, c2, hf⟩ := br_b hf
  refine x_callV (k := 47) (As := [.int x1]) (rest := []) (st1 := [.int q2]) X hR (ctX11_isPlace c2) ml_X11_248 im_X11_isPlace se_X11_isPlace in_X11 co_X11_isPlace yo_X11_isPlace rfl kX11 (z_47 b) (rm_ok (by decide) (by decide)) rfl hl.1 rfl rfl (Nat.le_of_ble_eq_true rfl) dX11_beats_2 ⟨Nat.zero_le _, Nat.zero_le _⟩ (fun H locs hR => ?_)
  refine lv_if_eq (tgt := 29) hx hb dX11_beats_5 (by decide) (fun q5 => ?_) (fun q5 => ?_)
  · have hf := (br_if hf).1 q5
    exact wX11_beats_29 X hf hR (lv_sub hl [] rfl)
  · have hf := (br_if hf).2 q5
    refine lv_aload_n hx hb dX11_beats_8 rfl (lv_at hl 0 rfl) ?_
    refine lv_iload_n hx hb dX11_beats_9 rfl (lv_at hl 2 rfl) ?_
    obtain ⟨q10, c10, hf⟩ := br_b hf
    refine x_callV (k := 47) (As := [.int x2]) (rest := []) (st1 := [.int q10]) X hR (ctX11_isPlace c10) ml_X11_248 im_X11_isPlace se_X11_isPlace in_X11 co_X11_isPlace yo_X11_isPlace rfl kX11 (z_47 b) (rm_ok (by decide) (by decide)) rfl hl.1 rfl rfl (Nat.le_of_ble_eq_true rfl) dX11_beats_10 ⟨Nat.zero_le _, Nat.zero_le _⟩ (fun H locs hR => ?_)
    refine lv_if_eq (tgt := 29) hx hb dX11_beats_13 (by decide) (fun q13 => ?_) (fun q13 => ?_)
    · have hf := (br_if hf).1 q13
      exact wX11_beats_29 X hf hR (lv_sub hl [] rfl)
    · have hf := (br_if hf).2 q13
      refine lv_aload_n hx hb dX11_beats_16 rfl (lv_at hl 0 rfl) ?_
      refine lv_iload_n hx hb dX11_beats_17 rfl (lv_at hl 1 rfl) ?_
      refine lv_iload_n hx hb dX11_beats_18 rfl (lv_at hl 2 rfl) ?_
      obtain ⟨q19, c19, hf⟩ := br_b hf
      refine x_callV (k := 47) (As := [.int x1, .int x2]) (rest := []) (st1 := [.int q19]) X hR (ctX11_beatsOf c19) ml_X11_283 im_X11_beatsOf se_X11_beatsOf in_X11 co_X11_beatsOf yo_X11_beatsOf rfl kX11 (z_47 b) (rm_ok (by decide) (by decide)) rfl hl.1 rfl rfl (Nat.le_of_ble_eq_true rfl) dX11_beats_19 ⟨Nat.zero_le _, Nat.zero_le _⟩ (fun H locs hR => ?_)
      refine lv_if_eq (tgt := 29) hx hb dX11_beats_22 (by decide) (fun q22 => ?_) (fun q22 => ?_)
      · have hf := (br_if hf).1 q22
        exact wX11_beats_29 X hf hR (lv_sub hl [] rfl)
      · have hf := (br_if hf).2 q22
        refine lv_iconst (v := 1) hx hb dX11_beats_25 (by decide) ?_
        refine lv_goto (tgt := 30) hx hb dX11_beats_26 (by decide) ?_
        exact wX11_beats_30 X hf hR (lv_sub hl [] rfl)
theorem ctX11_beats {l : Launch} {E : Ge} {b : Bool} {M : Mem} {x1 : Int32} {x2 : Int32} {r : Int32} (h : fX11_beats M x1 x2 = some r) : CT l E yX11_beats cX11_beats 3 (some .boolean) 7 0 0 [.ref (eB E + 47), .int x1, .int x2] (some (.int r)) (sh_ b) (nn b) M (sh_ b) (nn b) M := by
  refine met_of (by decide) (Nat.le_of_ble_eq_true rfl) ?_
  intro p e s m args below meth c X _ hR ls hl
  exact wX11_beats_0 X h hR hl
def fX11_covers_41 (M : Mem) (k13 : Int32 → Int32 → Int32 → Option Int32) (k39 : Option Int32) (k47 : Option Int32) (x1 : Int32) (x2 : Int32) (x3 : Int32) : Option Int32 := nx (x3 + (1 : Int32)) (fun v41 => k13 x1 x2 v41)
def fX11_covers_13 (M : Mem) (k39 : Option Int32) (k47 : Option Int32) : Nat → Int32 → Int32 → Int32 → Option Int32
  | 0, _, _, _ => none
  | n + 1, x1, x2, x3 => (fX11_places M).bind (fun q15 => (if q15 ≤ x3 then k47 else (fX11_beatsOf M x3 x1).bind (fun q24 => (if q24 = 0 then fX11_covers_41 M (fX11_covers_13 M k39 k47 n) k39 k47 x1 x2 x3 else (fX11_beatsOf M x3 x2).bind (fun q33 => (if q33 = 0 then k39 else fX11_covers_41 M (fX11_covers_13 M k39 k47 n) k39 k47 x1 x2 x3))))))
def fX11_covers_39 (M : Mem) : Option Int32 := some (0 : Int32)
def fX11_covers_47 (M : Mem) : Option Int32 := some (1 : Int32)
def fX11_covers (M : Mem) (x1 : Int32) (x2 : Int32) : Option Int32 := (fX11_beatsOf M x1 x2).bind (fun q3 => (if q3 = 0 then some (0 : Int32) else fX11_covers_13 M (fX11_covers_39 M) (fX11_covers_47 M) FU x1 x2 (0 : Int32)))
set_option maxHeartbeats 4000000 in
set_option maxRecDepth 100000 in
theorem wX11_covers_41 {r : Int32} {M : Mem} {k13 : Int32 → Int32 → Int32 → Option Int32} {k39 : Option Int32} {k47 : Option Int32} (X : CX E p s m args c meth cX11_covers 4 (some .boolean) RX11) (hk13 : ∀ {x1 : Int32} {x2 : Int32} {x3 : Int32} {H : Heap} {locs : List Loc} {ls : Array Slot}, k13 x1 x2 x3 = some r → Rl E (sh_ b) (nn b) s.heap M H locs → lv_has ls 4 [(0, .ref (eB E + 47)), (1, .int x1), (2, .int x2), (3, .int x3)] → W p l e (rm 7 0 0) s m args below meth c H locs 0 0 (MQ below (qq E (some (.int r)) (sh_ b) (nn b) M) args s 0 0 (fr E)) (F0 m 13 ls [])) (hk39 : ∀ {H : Heap} {locs : List Loc} {ls : Array Slot}, k39 = some r → Rl E (sh_ b) (nn b) s.heap M H locs → lv_has ls 4 [] → W p l e (rm 7 0 0) s m args below meth c H locs 0 0 (MQ below (qq E (some (.int r)) (sh_ b) (nn b) M) args s 0 0 (fr E)) (F0 m 39 ls [])) (hk47 : ∀ {H : Heap} {locs : List Loc} {ls : Array Slot}, k47 = some r → Rl E (sh_ b) (nn b) s.heap M H locs → lv_has ls 4 [] → W p l e (rm 7 0 0) s m args below meth c H locs 0 0 (MQ below (qq E (some (.int r)) (sh_ b) (nn b) M) args s 0 0 (fr E)) (F0 m 47 ls [])) : ∀ {x1 : Int32} {x2 : Int32} {x3 : Int32} {H : Heap} {locs : List Loc} {ls : Array Slot}, fX11_covers_41 M k13 k39 k47 x1 x2 x3 = some r → Rl E (sh_ b) (nn b) s.heap M H locs → lv_has ls 4 [(0, .ref (eB E + 47)), (1, .int x1), (2, .int x2), (3, .int x3)] → W p l e (rm 7 0 0) s m args below meth c H locs 0 0 (MQ below (qq E (some (.int r)) (sh_ b) (nn b) M) args s 0 0 (fr E)) (F0 m 41 ls []) := by
  obtain ⟨hx, hb, hr, hml, hown, hts, hK, hN, hO, hlk, hbs⟩ := id X
  intro x1 x2 x3 H locs ls hf hR hl
  unfold fX11_covers_41 at hf
  obtain ⟨v41, e41⟩ : ∃ y : Int32, y = (x3 + (1 : Int32)) := ⟨_, rfl⟩
  have hf := nx_at e41 hf
  refine lv_iinc (v := v41) (lv' := [(3, .int v41), (0, .ref (eB E + 47)), (1, .int x1), (2, .int x2)]) hx hb dX11_covers_41 hl (k := 3) rfl (by rw [e41]; rfl) (by decide) rfl (fun ls hl => ?_)
  refine lv_goto (tgt := 13) hx hb dX11_covers_44 (by decide) ?_
  exact hk13 hf hR (lv_sub hl [1, 2, 3, 0] rfl)
set_option maxHeartbeats 4000000 in
set_option maxRecDepth 100000 in
theorem wX11_covers_13 {r : Int32} {M : Mem} {k39 : Option Int32} {k47 : Option Int32} (X : CX E p s m args c meth cX11_covers 4 (some .boolean) RX11) (hk39 : ∀ {H : Heap} {locs : List Loc} {ls : Array Slot}, k39 = some r → Rl E (sh_ b) (nn b) s.heap M H locs → lv_has ls 4 [] → W p l e (rm 7 0 0) s m args below meth c H locs 0 0 (MQ below (qq E (some (.int r)) (sh_ b) (nn b) M) args s 0 0 (fr E)) (F0 m 39 ls [])) (hk47 : ∀ {H : Heap} {locs : List Loc} {ls : Array Slot}, k47 = some r → Rl E (sh_ b) (nn b) s.heap M H locs → lv_has ls 4 [] → W p l e (rm 7 0 0) s m args below meth c H locs 0 0 (MQ below (qq E (some (.int r)) (sh_ b) (nn b) M) args s 0 0 (fr E)) (F0 m 47 ls [])) : ∀ (n : Nat) {x1 : Int32} {x2 : Int32} {x3 : Int32} {H : Heap} {locs : List Loc} {ls : Array Slot}, fX11_covers_13 M k39 k47 n x1 x2 x3 = some r → Rl E (sh_ b) (nn b) s.heap M H locs → lv_has ls 4 [(0, .ref (eB E + 47)), (1, .int x1), (2, .int x2), (3, .int x3)] → W p l e (rm 7 0 0) s m args below meth c H locs 0 0 (MQ below (qq E (some (.int r)) (sh_ b) (nn b) M) args s 0 0 (fr E)) (F0 m 13 ls []) := by
  obtain ⟨hx, hb, hr, hml, hown, hts, hK, hN, hO, hlk, hbs⟩ := id X
  intro n
  induction n with
  | zero =>
    intro x1 x2 x3 H locs ls hf hR hl
    exact absurd (show none = some _ from hf) (fun h => by cases h)
  | succ n ih =>
    intro x1 x2 x3 H locs ls hf hR hl
    rw [fX11_covers_13] at hf
    refine lv_iload_n hx hb dX11_covers_13 rfl (lv_at hl 3 rfl) ?_
    refine lv_aload_n hx hb dX11_covers_14 rfl (lv_at hl 0 rfl) ?_
    obtain ⟨q15, c15, hf⟩ := br_b hf
    refine x_callV (k := 47) (As := []) (rest := [.int x3]) (st1 := [.int q15, .int x3]) X hR (ctX11_places c15) ml_X11_242 im_X11_places se_X11_places in_X11 co_X11_places yo_X11_places rfl kX11 (z_47 b) (rm_ok (by decide) (by decide)) rfl hl.1 rfl rfl (Nat.le_of_ble_eq_true rfl) dX11_covers_15 ⟨Nat.zero_le _, Nat.zero_le _⟩ (fun H locs hR => ?_)
    refine lv_icmp_ge (tgt := 47) hx hb dX11_covers_18 (by decide) (fun q18 => ?_) (fun q18 => ?_)
    · have hf := (br_if hf).1 q18
      exact hk47 hf hR (lv_sub hl [] rfl)
    · have hf := (br_if hf).2 q18
      refine lv_aload_n hx hb dX11_covers_21 rfl (lv_at hl 0 rfl) ?_
      refine lv_iload_n hx hb dX11_covers_22 rfl (lv_at hl 3 rfl) ?_
      refine lv_iload_n hx hb dX11_covers_23 rfl (lv_at hl 1 rfl) ?_
      obtain ⟨q24, c24, hf⟩ := br_b hf
      refine x_callV (k := 47) (As := [.int x3, .int x1]) (rest := []) (st1 := [.int q24]) X hR (ctX11_beatsOf c24) ml_X11_283 im_X11_beatsOf se_X11_beatsOf in_X11 co_X11_beatsOf yo_X11_beatsOf rfl kX11 (z_47 b) (rm_ok (by decide) (by decide)) rfl hl.1 rfl rfl (Nat.le_of_ble_eq_true rfl) dX11_covers_24 ⟨Nat.zero_le _, Nat.zero_le _⟩ (fun H locs hR => ?_)
      refine lv_if_eq (tgt := 41) hx hb dX11_covers_27 (by decide) (fun q27 => ?_) (fun q27 => ?_)
      · have hf := (br_if hf).1 q27
        exact wX11_covers_41 X (fun hf hR hl => ih hf hR hl) (fun hf hR hl => hk39 hf hR hl) (fun hf hR hl => hk47 hf hR hl) hf hR hl
      · have hf := (br_if hf).2 q27
        refine lv_aload_n hx hb dX11_covers_30 rfl (lv_at hl 0 rfl) ?_
        refine lv_iload_n hx hb dX11_covers_31 rfl (lv_at hl 3 rfl) ?_
        refine lv_iload_n hx hb dX11_covers_32 rfl (lv_at hl 2 rfl) ?_
        obtain ⟨q33, c33, hf⟩ := br_b hf
        refine x_callV (k := 47) (As := [.int x3, .int x2]) (rest := []) (st1 := [.int q33]) X hR (ctX11_beatsOf c33) ml_X11_283 im_X11_beatsOf se_X11_beatsOf in_X11 co_X11_beatsOf yo_X11_beatsOf rfl kX11 (z_47 b) (rm_ok (by decide) (by decide)) rfl hl.1 rfl rfl (Nat.le_of_ble_eq_true rfl) dX11_covers_33 ⟨Nat.zero_le _, Nat.zero_le _⟩ (fun H locs hR => ?_)
        refine lv_if_ne (tgt := 41) hx hb dX11_covers_36 (by decide) (fun q36 => ?_) (fun q36 => ?_)
        · have hf := (br_if hf).2 q36
          exact wX11_covers_41 X (fun hf hR hl => ih hf hR hl) (fun hf hR hl => hk39 hf hR hl) (fun hf hR hl => hk47 hf hR hl) hf hR hl
        · have hf := (br_if hf).1 q36
          exact hk39 hf hR (lv_sub hl [] rfl)
set_option maxHeartbeats 4000000 in
set_option maxRecDepth 100000 in
theorem wX11_covers_39 {r : Int32} {M : Mem} (X : CX E p s m args c meth cX11_covers 4 (some .boolean) RX11) : ∀ {H : Heap} {locs : List Loc} {ls : Array Slot}, fX11_covers_39 M = some r → Rl E (sh_ b) (nn b) s.heap M H locs → lv_has ls 4 [] → W p l e (rm 7 0 0) s m args below meth c H locs 0 0 (MQ below (qq E (some (.int r)) (sh_ b) (nn b) M) args s 0 0 (fr E)) (F0 m 39 ls []) := by
  obtain ⟨hx, hb, hr, hml, hown, hts, hK, hN, hO, hlk, hbs⟩ := id X
  intro H locs ls hf hR hl
  unfold fX11_covers_39 at hf
  refine lv_iconst (v := 0) hx hb dX11_covers_39 (by decide) ?_
  cases hf
  exact x_zret hx hb hr hlk hR (by decide) dX11_covers_40
set_option maxHeartbeats 4000000 in
set_option maxRecDepth 100000 in
theorem wX11_covers_47 {r : Int32} {M : Mem} (X : CX E p s m args c meth cX11_covers 4 (some .boolean) RX11) : ∀ {H : Heap} {locs : List Loc} {ls : Array Slot}, fX11_covers_47 M = some r → Rl E (sh_ b) (nn b) s.heap M H locs → lv_has ls 4 [] → W p l e (rm 7 0 0) s m args below meth c H locs 0 0 (MQ below (qq E (some (.int r)) (sh_ b) (nn b) M) args s 0 0 (fr E)) (F0 m 47 ls []) := by
  obtain ⟨hx, hb, hr, hml, hown, hts, hK, hN, hO, hlk, hbs⟩ := id X
  intro H locs ls hf hR hl
  unfold fX11_covers_47 at hf
  refine lv_iconst (v := 1) hx hb dX11_covers_47 (by decide) ?_
  cases hf
  exact x_zret hx hb hr hlk hR (by decide) dX11_covers_48
set_option maxHeartbeats 4000000 in
set_option maxRecDepth 100000 in
theorem wX11_covers_0 {r : Int32} {M : Mem} (X : CX E p s m args c meth cX11_covers 4 (some .boolean) RX11) : ∀ {x1 : Int32} {x2 : Int32} {H : Heap} {locs : List Loc} {ls : Array Slot}, fX11_covers M x1 x2 = some r → Rl E (sh_ b) (nn b) s.heap M H locs → lv_has ls 4 [(0, .ref (eB E + 47)), (1, .int x1), (2, .int x2)] → W p l e (rm 7 0 0) s m args below meth c H locs 0 0 (MQ below (qq E (some (.int r)) (sh_ b) (nn b) M) args s 0 0 (fr E)) (F0 m 0 ls []) := by
  obtain ⟨hx, hb, hr, hml, hown, hts, hK, hN, hO, hlk, hbs⟩ := id X
  intro x1 x2 H locs ls hf hR hl
  unfold fX11_covers at hf
  refine lv_aload_n hx hb dX11_covers_0 rfl (lv_at hl 0 rfl) ?_
  refine lv_iload_n hx hb dX11_covers_1 rfl (lv_at hl 1 rfl) ?_
  refine lv_iload_n hx hb dX11_covers_2 rfl (lv_at hl 2 rfl) ?_
  obtain ⟨q3, c3, hf⟩ := br_b hf
  refine x_callV (k := 47) (As := [.int x1, .int x2]) (rest := []) (st1 := [.int q3]) X hR (ctX11_beatsOf c3) ml_X11_283 im_X11_beatsOf se_X11_beatsOf in_X11 co_X11_beatsOf yo_X11_beatsOf rfl kX11 (z_47 b) (rm_ok (by decide) (by decide)) rfl hl.1 rfl rfl (Nat.le_of_ble_eq_true rfl) dX11_covers_3 ⟨Nat.zero_le _, Nat.zero_le _⟩ (fun H locs hR => ?_)
  refine lv_if_ne (tgt := 11) hx hb dX11_covers_6 (by decide) (fun q6 => ?_) (fun q6 => ?_)
  · have hf := (br_if hf).2 q6
    refine lv_iconst (v := 0) hx hb dX11_covers_11 (by decide) ?_
    refine lv_istore_n (lv' := [(3, .int (0 : Int32)), (0, .ref (eB E + 47)), (1, .int x1), (2, .int x2)]) hx hb dX11_covers_12 rfl hl (by decide) rfl (fun ls hl => ?_)
    exact wX11_covers_13 X (fun hf hR hl => wX11_covers_39 X hf hR hl) (fun hf hR hl => wX11_covers_47 X hf hR hl) FU hf hR (lv_sub hl [1, 2, 3, 0] rfl)
  · have hf := (br_if hf).1 q6
    refine lv_iconst (v := 0) hx hb dX11_covers_9 (by decide) ?_
    cases hf
    exact x_zret hx hb hr hlk hR (by decide) dX11_covers_10
theorem ctX11_covers {l : Launch} {E : Ge} {b : Bool} {M : Mem} {x1 : Int32} {x2 : Int32} {r : Int32} (h : fX11_covers M x1 x2 = some r) : CT l E yX11_covers cX11_covers 4 (some .boolean) 7 0 0 [.ref (eB E + 47), .int x1, .int x2] (some (.int r)) (sh_ b) (nn b) M (sh_ b) (nn b) M := by
  refine met_of (by decide) (Nat.le_of_ble_eq_true rfl) ?_
  intro p e s m args below meth c X _ hR ls hl
  exact wX11_covers_0 X h hR hl
def fX11_isOpen_26 (M : Mem) (k2 : Int32 → Int32 → Option Int32) (k24 : Option Int32) (k32 : Option Int32) (x1 : Int32) (x2 : Int32) : Option Int32 := nx (x2 + (1 : Int32)) (fun v26 => k2 x1 v26)
def fX11_isOpen_2 (M : Mem) (k24 : Option Int32) (k32 : Option Int32) : Nat → Int32 → Int32 → Option Int32
  | 0, _, _ => none
  | n + 1, x1, x2 => (fX11_places M).bind (fun q4 => (if q4 ≤ x2 then k32 else (if x2 = x1 then fX11_isOpen_26 M (fX11_isOpen_2 M k24 k32 n) k24 k32 x1 x2 else (fX11_covers M x2 x1).bind (fun q18 => (if q18 = 0 then fX11_isOpen_26 M (fX11_isOpen_2 M k24 k32 n) k24 k32 x1 x2 else k24)))))
def fX11_isOpen_24 (M : Mem) : Option Int32 := some (0 : Int32)
def fX11_isOpen_32 (M : Mem) : Option Int32 := some (1 : Int32)
def fX11_isOpen (M : Mem) (x1 : Int32) : Option Int32 := fX11_isOpen_2 M (fX11_isOpen_24 M) (fX11_isOpen_32 M) FU x1 (0 : Int32)
set_option maxHeartbeats 4000000 in
set_option maxRecDepth 100000 in
theorem wX11_isOpen_26 {r : Int32} {M : Mem} {k2 : Int32 → Int32 → Option Int32} {k24 : Option Int32} {k32 : Option Int32} (X : CX E p s m args c meth cX11_isOpen 3 (some .boolean) RX11) (hk2 : ∀ {x1 : Int32} {x2 : Int32} {H : Heap} {locs : List Loc} {ls : Array Slot}, k2 x1 x2 = some r → Rl E (sh_ b) (nn b) s.heap M H locs → lv_has ls 3 [(0, .ref (eB E + 47)), (1, .int x1), (2, .int x2)] → W p l e (rm 8 0 0) s m args below meth c H locs 0 0 (MQ below (qq E (some (.int r)) (sh_ b) (nn b) M) args s 0 0 (fr E)) (F0 m 2 ls [])) (hk24 : ∀ {H : Heap} {locs : List Loc} {ls : Array Slot}, k24 = some r → Rl E (sh_ b) (nn b) s.heap M H locs → lv_has ls 3 [] → W p l e (rm 8 0 0) s m args below meth c H locs 0 0 (MQ below (qq E (some (.int r)) (sh_ b) (nn b) M) args s 0 0 (fr E)) (F0 m 24 ls [])) (hk32 : ∀ {H : Heap} {locs : List Loc} {ls : Array Slot}, k32 = some r → Rl E (sh_ b) (nn b) s.heap M H locs → lv_has ls 3 [] → W p l e (rm 8 0 0) s m args below meth c H locs 0 0 (MQ below (qq E (some (.int r)) (sh_ b) (nn b) M) args s 0 0 (fr E)) (F0 m 32 ls [])) : ∀ {x1 : Int32} {x2 : Int32} {H : Heap} {locs : List Loc} {ls : Array Slot}, fX11_isOpen_26 M k2 k24 k32 x1 x2 = some r → Rl E (sh_ b) (nn b) s.heap M H locs → lv_has ls 3 [(0, .ref (eB E + 47)), (1, .int x1), (2, .int x2)] → W p l e (rm 8 0 0) s m args below meth c H locs 0 0 (MQ below (qq E (some (.int r)) (sh_ b) (nn b) M) args s 0 0 (fr E)) (F0 m 26 ls []) := by
  obtain ⟨hx, hb, hr, hml, hown, hts, hK, hN, hO, hlk, hbs⟩ := id X
  intro x1 x2 H locs ls hf hR hl
  unfold fX11_isOpen_26 at hf
  obtain ⟨v26, e26⟩ : ∃ y : Int32, y = (x2 + (1 : Int32)) := ⟨_, rfl⟩
  have hf := nx_at e26 hf
  refine lv_iinc (v := v26) (lv' := [(2, .int v26), (0, .ref (eB E + 47)), (1, .int x1)]) hx hb dX11_isOpen_26 hl (k := 2) rfl (by rw [e26]; rfl) (by decide) rfl (fun ls hl => ?_)
  refine lv_goto (tgt := 2) hx hb dX11_isOpen_29 (by decide) ?_
  exact hk2 hf hR (lv_sub hl [1, 2, 0] rfl)
set_option maxHeartbeats 4000000 in
set_option maxRecDepth 100000 in
theorem wX11_isOpen_2 {r : Int32} {M : Mem} {k24 : Option Int32} {k32 : Option Int32} (X : CX E p s m args c meth cX11_isOpen 3 (some .boolean) RX11) (hk24 : ∀ {H : Heap} {locs : List Loc} {ls : Array Slot}, k24 = some r → Rl E (sh_ b) (nn b) s.heap M H locs → lv_has ls 3 [] → W p l e (rm 8 0 0) s m args below meth c H locs 0 0 (MQ below (qq E (some (.int r)) (sh_ b) (nn b) M) args s 0 0 (fr E)) (F0 m 24 ls [])) (hk32 : ∀ {H : Heap} {locs : List Loc} {ls : Array Slot}, k32 = some r → Rl E (sh_ b) (nn b) s.heap M H locs → lv_has ls 3 [] → W p l e (rm 8 0 0) s m args below meth c H locs 0 0 (MQ below (qq E (some (.int r)) (sh_ b) (nn b) M) args s 0 0 (fr E)) (F0 m 32 ls [])) : ∀ (n : Nat) {x1 : Int32} {x2 : Int32} {H : Heap} {locs : List Loc} {ls : Array Slot}, fX11_isOpen_2 M k24 k32 n x1 x2 = some r → Rl E (sh_ b) (nn b) s.heap M H locs → lv_has ls 3 [(0, .ref (eB E + 47)), (1, .int x1), (2, .int x2)] → W p l e (rm 8 0 0) s m args below meth c H locs 0 0 (MQ below (qq E (some (.int r)) (sh_ b) (nn b) M) args s 0 0 (fr E)) (F0 m 2 ls []) := by
  obtain ⟨hx, hb, hr, hml, hown, hts, hK, hN, hO, hlk, hbs⟩ := id X
  intro n
  induction n with
  | zero =>
    intro x1 x2 H locs ls hf hR hl
    exact absurd (show none = some _ from hf) (fun h => by cases h)
  | succ n ih =>
    intro x1 x2 H locs ls hf hR hl
    rw [fX11_isOpen_2] at hf
    refine lv_iload_n hx hb dX11_isOpen_2 rfl (lv_at hl 2 rfl) ?_
    refine lv_aload_n hx hb dX11_isOpen_3 rfl (lv_at hl 0 rfl) ?_
    obtain ⟨q4, c4, hf⟩ := br_b hf
    refine x_callV (k := 47) (As := []) (rest := [.int x2]) (st1 := [.int q4, .int x2]) X hR (ctX11_places c4) ml_X11_242 im_X11_places se_X11_places in_X11 co_X11_places yo_X11_places rfl kX11 (z_47 b) (rm_ok (by decide) (by decide)) rfl hl.1 rfl rfl (Nat.le_of_ble_eq_true rfl) dX11_isOpen_4 ⟨Nat.zero_le _, Nat.zero_le _⟩ (fun H locs hR => ?_)
    refine lv_icmp_ge (tgt := 32) hx hb dX11_isOpen_7 (by decide) (fun q7 => ?_) (fun q7 => ?_)
    · have hf := (br_if hf).1 q7
      exact hk32 hf hR (lv_sub hl [] rfl)
    · have hf := (br_if hf).2 q7
      refine lv_iload_n hx hb dX11_isOpen_10 rfl (lv_at hl 2 rfl) ?_
      refine lv_iload_n hx hb dX11_isOpen_11 rfl (lv_at hl 1 rfl) ?_
      refine lv_icmp_eq (tgt := 26) hx hb dX11_isOpen_12 (by decide) (fun q12 => ?_) (fun q12 => ?_)
      · have hf := (br_if hf).1 q12
        exact wX11_isOpen_26 X (fun hf hR hl => ih hf hR hl) (fun hf hR hl => hk24 hf hR hl) (fun hf hR hl => hk32 hf hR hl) hf hR hl
      · have hf := (br_if hf).2 q12
        refine lv_aload_n hx hb dX11_isOpen_15 rfl (lv_at hl 0 rfl) ?_
        refine lv_iload_n hx hb dX11_isOpen_16 rfl (lv_at hl 2 rfl) ?_
        refine lv_iload_n hx hb dX11_isOpen_17 rfl (lv_at hl 1 rfl) ?_
        obtain ⟨q18, c18, hf⟩ := br_b hf
        refine x_callV (k := 47) (As := [.int x2, .int x1]) (rest := []) (st1 := [.int q18]) X hR (ctX11_covers c18) ml_X11_363 im_X11_covers se_X11_covers in_X11 co_X11_covers yo_X11_covers rfl kX11 (z_47 b) (rm_ok (by decide) (by decide)) rfl hl.1 rfl rfl (Nat.le_of_ble_eq_true rfl) dX11_isOpen_18 ⟨Nat.zero_le _, Nat.zero_le _⟩ (fun H locs hR => ?_)
        refine lv_if_eq (tgt := 26) hx hb dX11_isOpen_21 (by decide) (fun q21 => ?_) (fun q21 => ?_)
        · have hf := (br_if hf).1 q21
          exact wX11_isOpen_26 X (fun hf hR hl => ih hf hR hl) (fun hf hR hl => hk24 hf hR hl) (fun hf hR hl => hk32 hf hR hl) hf hR hl
        · have hf := (br_if hf).2 q21
          exact hk24 hf hR (lv_sub hl [] rfl)
set_option maxHeartbeats 4000000 in
set_option maxRecDepth 100000 in
theorem wX11_isOpen_24 {r : Int32} {M : Mem} (X : CX E p s m args c meth cX11_isOpen 3 (some .boolean) RX11) : ∀ {H : Heap} {locs : List Loc} {ls : Array Slot}, fX11_isOpen_24 M = some r → Rl E (sh_ b) (nn b) s.heap M H locs → lv_has ls 3 [] → W p l e (rm 8 0 0) s m args below meth c H locs 0 0 (MQ below (qq E (some (.int r)) (sh_ b) (nn b) M) args s 0 0 (fr E)) (F0 m 24 ls []) := by
  obtain ⟨hx, hb, hr, hml, hown, hts, hK, hN, hO, hlk, hbs⟩ := id X
  intro H locs ls hf hR hl
  unfold fX11_isOpen_24 at hf
  refine lv_iconst (v := 0) hx hb dX11_isOpen_24 (by decide) ?_
  cases hf
  exact x_zret hx hb hr hlk hR (by decide) dX11_isOpen_25
set_option maxHeartbeats 4000000 in
set_option maxRecDepth 100000 in
theorem wX11_isOpen_32 {r : Int32} {M : Mem} (X : CX E p s m args c meth cX11_isOpen 3 (some .boolean) RX11) : ∀ {H : Heap} {locs : List Loc} {ls : Array Slot}, fX11_isOpen_32 M = some r → Rl E (sh_ b) (nn b) s.heap M H locs → lv_has ls 3 [] → W p l e (rm 8 0 0) s m args below meth c H locs 0 0 (MQ below (qq E (some (.int r)) (sh_ b) (nn b) M) args s 0 0 (fr E)) (F0 m 32 ls []) := by
  obtain ⟨hx, hb, hr, hml, hown, hts, hK, hN, hO, hlk, hbs⟩ := id X
  intro H locs ls hf hR hl
  unfold fX11_isOpen_32 at hf
  refine lv_iconst (v := 1) hx hb dX11_isOpen_32 (by decide) ?_
  cases hf
  exact x_zret hx hb hr hlk hR (by decide) dX11_isOpen_33
set_option maxHeartbeats 4000000 in
set_option maxRecDepth 100000 in
theorem wX11_isOpen_0 {r : Int32} {M : Mem} (X : CX E p s m args c meth cX11_isOpen 3 (some .boolean) RX11) : ∀ {x1 : Int32} {H : Heap} {locs : List Loc} {ls : Array Slot}, fX11_isOpen M x1 = some r → Rl E (sh_ b) (nn b) s.heap M H locs → lv_has ls 3 [(0, .ref (eB E + 47)), (1, .int x1)] → W p l e (rm 8 0 0) s m args below meth c H locs 0 0 (MQ below (qq E (some (.int r)) (sh_ b) (nn b) M) args s 0 0 (fr E)) (F0 m 0 ls []) := by
  obtain ⟨hx, hb, hr, hml, hown, hts, hK, hN, hO, hlk, hbs⟩ := id X
  intro x1 H locs ls hf hR hl
  unfold fX11_isOpen at hf
  refine lv_iconst (v := 0) hx hb dX11_isOpen_0 (by decide) ?_
  refine lv_istore_n (lv' := [(2, .int (0 : Int32)), (0, .ref (eB E + 47)), (1, .int x1)]) hx hb dX11_isOpen_1 rfl hl (by decide) rfl (fun ls hl => ?_)
  exact wX11_isOpen_2 X (fun hf hR hl => wX11_isOpen_24 X hf hR hl) (fun hf hR hl => wX11_isOpen_32 X hf hR hl) FU hf hR (lv_sub hl [1, 2, 0] rfl)
theorem ctX11_isOpen {l : Launch} {E : Ge} {b : Bool} {M : Mem} {x1 : Int32} {r : Int32} (h : fX11_isOpen M x1 = some r) : CT l E yX11_isOpen cX11_isOpen 3 (some .boolean) 8 0 0 [.ref (eB E + 47), .int x1] (some (.int r)) (sh_ b) (nn b) M (sh_ b) (nn b) M := by
  refine met_of (by decide) (Nat.le_of_ble_eq_true rfl) ?_
  intro p e s m args below meth c X _ hR ls hl
  exact wX11_isOpen_0 X h hR hl
def fX11_leads_23 (k2 : Int32 → Int32 → Mem → Option Mem) (k30 : Mem → Option Mem) (x1 : Int32) (x2 : Int32) (s1 : Int32) (s2 : Int32) (M : Mem) : Option Mem := (if inb s1 20 = true then nx (sI M 87 (ix s1) s2) (fun M23 => nx (x2 + (1 : Int32)) (fun v24 => k2 x1 v24 M23)) else none)
def fX11_leads_2 (k30 : Mem → Option Mem) : Nat → Int32 → Int32 → Mem → Option Mem
  | 0, _, _, _ => none
  | n + 1, x1, x2, M => (if (20 : Int32) ≤ x2 then k30 M else (if x2 = x1 then fX11_leads_23 (fX11_leads_2 k30 n) k30 x1 x2 x2 (0 : Int32) M else fX11_leads_23 (fX11_leads_2 k30 n) k30 x1 x2 x2 (-1 : Int32) M))
def fX11_leads_105 (k66 : Int32 → Int32 → Int32 → Mem → Option Mem) (k111 : Int32 → Int32 → Mem → Option Mem) (x2 : Int32) (x3 : Int32) (x4 : Int32) (M : Mem) : Option Mem := nx (x4 + (1 : Int32)) (fun v105 => k66 x2 x3 v105 M)
def fX11_leads_66 (k111 : Int32 → Int32 → Mem → Option Mem) : Nat → Int32 → Int32 → Int32 → Mem → Option Mem
  | 0, _, _, _, _ => none
  | n + 1, x2, x3, x4, M => (fX11_places M).bind (fun q69 => (if q69 ≤ x4 then k111 x2 x3 M else (if inb x4 20 = true then (if (M.1 87 (ix x4)) = x2 then (fX11_beatsOf M x4 x3).bind (fun q90 => (if q90 = 0 then fX11_leads_105 (fX11_leads_66 k111 n) k111 x2 x3 x4 M else (if inb x3 20 = true then nx (sI M 87 (ix x3) (x2 + (1 : Int32))) (fun M104 => fX11_leads_105 (fX11_leads_66 k111 n) k111 x2 x3 x4 M104) else none))) else fX11_leads_105 (fX11_leads_66 k111 n) k111 x2 x3 x4 M) else none)))
def fX11_leads_111 (k42 : Int32 → Int32 → Mem → Option Mem) (k117 : Int32 → Mem → Option Mem) (x2 : Int32) (x3 : Int32) (M : Mem) : Option Mem := nx (x3 + (1 : Int32)) (fun v111 => k42 x2 v111 M)
def fX11_leads_42 (k117 : Int32 → Mem → Option Mem) : Nat → Int32 → Int32 → Mem → Option Mem
  | 0, _, _, _ => none
  | n + 1, x2, x3, M => (fX11_places M).bind (fun q44 => (if q44 ≤ x3 then k117 x2 M else (if inb x3 20 = true then (if (M.1 87 (ix x3)) = (-1 : Int32) then fX11_leads_66 (fX11_leads_111 (fX11_leads_42 k117 n) k117) FU x2 x3 (0 : Int32) M else fX11_leads_111 (fX11_leads_42 k117 n) k117 x2 x3 M) else none)))
def fX11_leads_117 (k32 : Int32 → Mem → Option Mem) (k123 : Mem → Option Mem) (x2 : Int32) (M : Mem) : Option Mem := nx (x2 + (1 : Int32)) (fun v117 => k32 v117 M)
def fX11_leads_32 (k123 : Mem → Option Mem) : Nat → Int32 → Mem → Option Mem
  | 0, _, _ => none
  | n + 1, x2, M => (fX11_places M).bind (fun q34 => (if q34 ≤ x2 then k123 M else fX11_leads_42 (fX11_leads_117 (fX11_leads_32 k123 n) k123) FU x2 (0 : Int32) M))
def fX11_leads_123 (M : Mem) : Option Mem := some M
def fX11_leads_30 (M : Mem) : Option Mem := fX11_leads_32 fX11_leads_123 FU (0 : Int32) M
def fX11_leads (x1 : Int32) (M : Mem) : Option Mem := fX11_leads_2 fX11_leads_30 FU x1 (0 : Int32) M
set_option maxHeartbeats 4000000 in
set_option maxRecDepth 100000 in
theorem wX11_leads_23 {M1 : Mem} {k2 : Int32 → Int32 → Mem → Option Mem} {k30 : Mem → Option Mem} (X : CX E p s m args c meth cX11_leads 5 none RX11) (hk2 : ∀ {x1 : Int32} {x2 : Int32} {M : Mem} {H : Heap} {locs : List Loc} {ls : Array Slot}, k2 x1 x2 M = some M1 → Rl E (sh_ b) (nn b) s.heap M H locs → lv_has ls 5 [(0, .ref (eB E + 47)), (1, .int x1), (2, .int x2)] → W p l e (rm 7 0 0) s m args below meth c H locs 0 0 (MQ below (qq E none (sh_ b) (nn b) M1) args s 0 0 (fr E)) (F0 m 2 ls [])) (hk30 : ∀ {M : Mem} {H : Heap} {locs : List Loc} {ls : Array Slot}, k30 M = some M1 → Rl E (sh_ b) (nn b) s.heap M H locs → lv_has ls 5 [(0, .ref (eB E + 47))] → W p l e (rm 7 0 0) s m args below meth c H locs 0 0 (MQ below (qq E none (sh_ b) (nn b) M1) args s 0 0 (fr E)) (F0 m 30 ls [])) : ∀ {x1 : Int32} {x2 : Int32} {s1 : Int32} {s2 : Int32} {M : Mem} {H : Heap} {locs : List Loc} {ls : Array Slot}, fX11_leads_23 k2 k30 x1 x2 s1 s2 M = some M1 → Rl E (sh_ b) (nn b) s.heap M H locs → lv_has ls 5 [(0, .ref (eB E + 47)), (1, .int x1), (2, .int x2)] → W p l e (rm 7 0 0) s m args below meth c H locs 0 0 (MQ below (qq E none (sh_ b) (nn b) M1) args s 0 0 (fr E)) (F0 m 23 ls [.int s2, .int s1, .ref (eB E + 87)]) := by
  obtain ⟨hx, hb, hr, hml, hown, hts, hK, hN, hO, hlk, hbs⟩ := id X
  intro x1 x2 s1 s2 M H locs ls hf hR hl
  unfold fX11_leads_23 at hf
  obtain ⟨g23, hf⟩ := br_g hf
  refine x_iast hx hb hK hR (z_87 b) g23 dX11_leads_23 (fun H locs hR => ?_)
  obtain ⟨M23, e23⟩ : ∃ y : Mem, y = (sI M 87 (ix s1) s2) := ⟨_, rfl⟩
  have hf := nx_at e23 hf
  have hR : Rl E (sh_ b) (nn b) s.heap M23 H locs := by rw [e23]; exact hR
  obtain ⟨v24, e24⟩ : ∃ y : Int32, y = (x2 + (1 : Int32)) := ⟨_, rfl⟩
  have hf := nx_at e24 hf
  refine lv_iinc (v := v24) (lv' := [(2, .int v24), (0, .ref (eB E + 47)), (1, .int x1)]) hx hb dX11_leads_24 hl (k := 2) rfl (by rw [e24]; rfl) (by decide) rfl (fun ls hl => ?_)
  refine lv_goto (tgt := 2) hx hb dX11_leads_27 (by decide) ?_
  exact hk2 hf hR (lv_sub hl [1, 2, 0] rfl)
set_option maxHeartbeats 4000000 in
set_option maxRecDepth 100000 in
theorem wX11_leads_2 {M1 : Mem} {k30 : Mem → Option Mem} (X : CX E p s m args c meth cX11_leads 5 none RX11) (hk30 : ∀ {M : Mem} {H : Heap} {locs : List Loc} {ls : Array Slot}, k30 M = some M1 → Rl E (sh_ b) (nn b) s.heap M H locs → lv_has ls 5 [(0, .ref (eB E + 47))] → W p l e (rm 7 0 0) s m args below meth c H locs 0 0 (MQ below (qq E none (sh_ b) (nn b) M1) args s 0 0 (fr E)) (F0 m 30 ls [])) : ∀ (n : Nat) {x1 : Int32} {x2 : Int32} {M : Mem} {H : Heap} {locs : List Loc} {ls : Array Slot}, fX11_leads_2 k30 n x1 x2 M = some M1 → Rl E (sh_ b) (nn b) s.heap M H locs → lv_has ls 5 [(0, .ref (eB E + 47)), (1, .int x1), (2, .int x2)] → W p l e (rm 7 0 0) s m args below meth c H locs 0 0 (MQ below (qq E none (sh_ b) (nn b) M1) args s 0 0 (fr E)) (F0 m 2 ls []) := by
  obtain ⟨hx, hb, hr, hml, hown, hts, hK, hN, hO, hlk, hbs⟩ := id X
  intro n
  induction n with
  | zero =>
    intro x1 x2 M H locs ls hf hR hl
    exact absurd (show none = some _ from hf) (fun h => by cases h)
  | succ n ih =>
    intro x1 x2 M H locs ls hf hR hl
    rw [fX11_leads_2] at hf
    refine lv_iload_n hx hb dX11_leads_2 rfl (lv_at hl 2 rfl) ?_
    refine lv_bipush (v := 20) hx hb dX11_leads_3 (by decide) ?_
    refine lv_icmp_ge (tgt := 30) hx hb dX11_leads_5 (by decide) (fun q5 => ?_) (fun q5 => ?_)
    · have hf := (br_if hf).1 q5
      exact hk30 hf hR (lv_sub hl [0] rfl)
    · have hf := (br_if hf).2 q5
      refine lv_aload_n hx hb dX11_leads_8 rfl (lv_at hl 0 rfl) ?_
      refine x_get hx hb hown hts hK hR kX11 (z_47 b) (j := 39) (by decide) fl_X11_94 (v := .ref (eB E + 87)) rfl dX11_leads_9 ?_
      refine lv_iload_n hx hb dX11_leads_12 rfl (lv_at hl 2 rfl) ?_
      refine lv_iload_n hx hb dX11_leads_13 rfl (lv_at hl 2 rfl) ?_
      refine lv_iload_n hx hb dX11_leads_14 rfl (lv_at hl 1 rfl) ?_
      refine lv_icmp_ne (tgt := 22) hx hb dX11_leads_15 (by decide) (fun q15 => ?_) (fun q15 => ?_)
      · have hf := (br_if hf).2 q15
        refine lv_iconst (v := -1) hx hb dX11_leads_22 (by decide) ?_
        exact wX11_leads_23 X (fun hf hR hl => ih hf hR hl) (fun hf hR hl => hk30 hf hR hl) hf hR hl
      · have hf := (br_if hf).1 q15
        refine lv_iconst (v := 0) hx hb dX11_leads_18 (by decide) ?_
        refine lv_goto (tgt := 23) hx hb dX11_leads_19 (by decide) ?_
        exact wX11_leads_23 X (fun hf hR hl => ih hf hR hl) (fun hf hR hl => hk30 hf hR hl) hf hR hl
set_option maxHeartbeats 4000000 in
set_option maxRecDepth 100000 in
theorem wX11_leads_105 {M1 : Mem} {k66 : Int32 → Int32 → Int32 → Mem → Option Mem} {k111 : Int32 → Int32 → Mem → Option Mem} (X : CX E p s m args c meth cX11_leads 5 none RX11) (hk66 : ∀ {x2 : Int32} {x3 : Int32} {x4 : Int32} {M : Mem} {H : Heap} {locs : List Loc} {ls : Array Slot}, k66 x2 x3 x4 M = some M1 → Rl E (sh_ b) (nn b) s.heap M H locs → lv_has ls 5 [(0, .ref (eB E + 47)), (2, .int x2), (3, .int x3), (4, .int x4)] → W p l e (rm 7 0 0) s m args below meth c H locs 0 0 (MQ below (qq E none (sh_ b) (nn b) M1) args s 0 0 (fr E)) (F0 m 66 ls [])) (hk111 : ∀ {x2 : Int32} {x3 : Int32} {M : Mem} {H : Heap} {locs : List Loc} {ls : Array Slot}, k111 x2 x3 M = some M1 → Rl E (sh_ b) (nn b) s.heap M H locs → lv_has ls 5 [(0, .ref (eB E + 47)), (2, .int x2), (3, .int x3)] → W p l e (rm 7 0 0) s m args below meth c H locs 0 0 (MQ below (qq E none (sh_ b) (nn b) M1) args s 0 0 (fr E)) (F0 m 111 ls [])) : ∀ {x2 : Int32} {x3 : Int32} {x4 : Int32} {M : Mem} {H : Heap} {locs : List Loc} {ls : Array Slot}, fX11_leads_105 k66 k111 x2 x3 x4 M = some M1 → Rl E (sh_ b) (nn b) s.heap M H locs → lv_has ls 5 [(0, .ref (eB E + 47)), (2, .int x2), (3, .int x3), (4, .int x4)] → W p l e (rm 7 0 0) s m args below meth c H locs 0 0 (MQ below (qq E none (sh_ b) (nn b) M1) args s 0 0 (fr E)) (F0 m 105 ls []) := by
  obtain ⟨hx, hb, hr, hml, hown, hts, hK, hN, hO, hlk, hbs⟩ := id X
  intro x2 x3 x4 M H locs ls hf hR hl
  unfold fX11_leads_105 at hf
  obtain ⟨v105, e105⟩ : ∃ y : Int32, y = (x4 + (1 : Int32)) := ⟨_, rfl⟩
  have hf := nx_at e105 hf
  refine lv_iinc (v := v105) (lv' := [(4, .int v105), (0, .ref (eB E + 47)), (2, .int x2), (3, .int x3)]) hx hb dX11_leads_105 hl (k := 3) rfl (by rw [e105]; rfl) (by decide) rfl (fun ls hl => ?_)
  refine lv_goto (tgt := 66) hx hb dX11_leads_108 (by decide) ?_
  exact hk66 hf hR (lv_sub hl [1, 2, 3, 0] rfl)
set_option maxHeartbeats 4000000 in
set_option maxRecDepth 100000 in
theorem wX11_leads_66 {M1 : Mem} {k111 : Int32 → Int32 → Mem → Option Mem} (X : CX E p s m args c meth cX11_leads 5 none RX11) (hk111 : ∀ {x2 : Int32} {x3 : Int32} {M : Mem} {H : Heap} {locs : List Loc} {ls : Array Slot}, k111 x2 x3 M = some M1 → Rl E (sh_ b) (nn b) s.heap M H locs → lv_has ls 5 [(0, .ref (eB E + 47)), (2, .int x2), (3, .int x3)] → W p l e (rm 7 0 0) s m args below meth c H locs 0 0 (MQ below (qq E none (sh_ b) (nn b) M1) args s 0 0 (fr E)) (F0 m 111 ls [])) : ∀ (n : Nat) {x2 : Int32} {x3 : Int32} {x4 : Int32} {M : Mem} {H : Heap} {locs : List Loc} {ls : Array Slot}, fX11_leads_66 k111 n x2 x3 x4 M = some M1 → Rl E (sh_ b) (nn b) s.heap M H locs → lv_has ls 5 [(0, .ref (eB E + 47)), (2, .int x2), (3, .int x3), (4, .int x4)] → W p l e (rm 7 0 0) s m args below meth c H locs 0 0 (MQ below (qq E none (sh_ b) (nn b) M1) args s 0 0 (fr E)) (F0 m 66 ls []) := by
  obtain ⟨hx, hb, hr, hml, hown, hts, hK, hN, hO, hlk, hbs⟩ := id X
  intro n
  induction n with
  | zero =>
    intro x2 x3 x4 M H locs ls hf hR hl
    exact absurd (show none = some _ from hf) (fun h => by cases h)
  | succ n ih =>
    intro x2 x3 x4 M H locs ls hf hR hl
    rw [fX11_leads_66] at hf
    refine lv_iload hx hb dX11_leads_66 (lv_at hl 3 rfl) ?_
    refine lv_aload_n hx hb dX11_leads_68 rfl (lv_at hl 0 rfl) ?_
    obtain ⟨q69, c69, hf⟩ := br_b hf
    refine x_callV (k := 47) (As := []) (rest := [.int x4]) (st1 := [.int q69, .int x4]) X hR (ctX11_places c69) ml_X11_242 im_X11_places se_X11_places in_X11 co_X11_places yo_X11_places rfl kX11 (z_47 b) (rm_ok (by decide) (by decide)) rfl hl.1 rfl rfl (Nat.le_of_ble_eq_true rfl) dX11_leads_69 ⟨Nat.zero_le _, Nat.zero_le _⟩ (fun H locs hR => ?_)
    refine lv_icmp_ge (tgt := 111) hx hb dX11_leads_72 (by decide) (fun q72 => ?_) (fun q72 => ?_)
    · have hf := (br_if hf).1 q72
      exact hk111 hf hR (lv_sub hl [0, 1, 2] rfl)
    · have hf := (br_if hf).2 q72
      refine lv_aload_n hx hb dX11_leads_75 rfl (lv_at hl 0 rfl) ?_
      refine x_get hx hb hown hts hK hR kX11 (z_47 b) (j := 39) (by decide) fl_X11_94 (v := .ref (eB E + 87)) rfl dX11_leads_76 ?_
      refine lv_iload hx hb dX11_leads_79 (lv_at hl 3 rfl) ?_
      obtain ⟨g81, hf⟩ := br_g hf
      refine x_iald hx hb hK hR (z_87 b) g81 dX11_leads_81 ?_
      refine lv_iload_n hx hb dX11_leads_82 rfl (lv_at hl 1 rfl) ?_
      refine lv_icmp_ne (tgt := 105) hx hb dX11_leads_83 (by decide) (fun q83 => ?_) (fun q83 => ?_)
      · have hf := (br_if hf).2 q83
        exact wX11_leads_105 X (fun hf hR hl => ih hf hR hl) (fun hf hR hl => hk111 hf hR hl) hf hR hl
      · have hf := (br_if hf).1 q83
        refine lv_aload_n hx hb dX11_leads_86 rfl (lv_at hl 0 rfl) ?_
        refine lv_iload hx hb dX11_leads_87 (lv_at hl 3 rfl) ?_
        refine lv_iload_n hx hb dX11_leads_89 rfl (lv_at hl 2 rfl) ?_
        obtain ⟨q90, c90, hf⟩ := br_b hf
        refine x_callV (k := 47) (As := [.int x4, .int x3]) (rest := []) (st1 := [.int q90]) X hR (ctX11_beatsOf c90) ml_X11_283 im_X11_beatsOf se_X11_beatsOf in_X11 co_X11_beatsOf yo_X11_beatsOf rfl kX11 (z_47 b) (rm_ok (by decide) (by decide)) rfl hl.1 rfl rfl (Nat.le_of_ble_eq_true rfl) dX11_leads_90 ⟨Nat.zero_le _, Nat.zero_le _⟩ (fun H locs hR => ?_)
        refine lv_if_eq (tgt := 105) hx hb dX11_leads_93 (by decide) (fun q93 => ?_) (fun q93 => ?_)
        · have hf := (br_if hf).1 q93
          exact wX11_leads_105 X (fun hf hR hl => ih hf hR hl) (fun hf hR hl => hk111 hf hR hl) hf hR hl
        · have hf := (br_if hf).2 q93
          refine lv_aload_n hx hb dX11_leads_96 rfl (lv_at hl 0 rfl) ?_
          refine x_get hx hb hown hts hK hR kX11 (z_47 b) (j := 39) (by decide) fl_X11_94 (v := .ref (eB E + 87)) rfl dX11_leads_97 ?_
          refine lv_iload_n hx hb dX11_leads_100 rfl (lv_at hl 2 rfl) ?_
          refine lv_iload_n hx hb dX11_leads_101 rfl (lv_at hl 1 rfl) ?_
          refine lv_iconst (v := 1) hx hb dX11_leads_102 (by decide) ?_
          refine lv_iadd hx hb dX11_leads_103 ?_
          obtain ⟨g104, hf⟩ := br_g hf
          refine x_iast hx hb hK hR (z_87 b) g104 dX11_leads_104 (fun H locs hR => ?_)
          obtain ⟨M104, e104⟩ : ∃ y : Mem, y = (sI M 87 (ix x3) (x2 + (1 : Int32))) := ⟨_, rfl⟩
          have hf := nx_at e104 hf
          have hR : Rl E (sh_ b) (nn b) s.heap M104 H locs := by rw [e104]; exact hR
          exact wX11_leads_105 X (fun hf hR hl => ih hf hR hl) (fun hf hR hl => hk111 hf hR hl) hf hR hl
set_option maxHeartbeats 4000000 in
set_option maxRecDepth 100000 in
theorem wX11_leads_111 {M1 : Mem} {k42 : Int32 → Int32 → Mem → Option Mem} {k117 : Int32 → Mem → Option Mem} (X : CX E p s m args c meth cX11_leads 5 none RX11) (hk42 : ∀ {x2 : Int32} {x3 : Int32} {M : Mem} {H : Heap} {locs : List Loc} {ls : Array Slot}, k42 x2 x3 M = some M1 → Rl E (sh_ b) (nn b) s.heap M H locs → lv_has ls 5 [(0, .ref (eB E + 47)), (2, .int x2), (3, .int x3)] → W p l e (rm 7 0 0) s m args below meth c H locs 0 0 (MQ below (qq E none (sh_ b) (nn b) M1) args s 0 0 (fr E)) (F0 m 42 ls [])) (hk117 : ∀ {x2 : Int32} {M : Mem} {H : Heap} {locs : List Loc} {ls : Array Slot}, k117 x2 M = some M1 → Rl E (sh_ b) (nn b) s.heap M H locs → lv_has ls 5 [(0, .ref (eB E + 47)), (2, .int x2)] → W p l e (rm 7 0 0) s m args below meth c H locs 0 0 (MQ below (qq E none (sh_ b) (nn b) M1) args s 0 0 (fr E)) (F0 m 117 ls [])) : ∀ {x2 : Int32} {x3 : Int32} {M : Mem} {H : Heap} {locs : List Loc} {ls : Array Slot}, fX11_leads_111 k42 k117 x2 x3 M = some M1 → Rl E (sh_ b) (nn b) s.heap M H locs → lv_has ls 5 [(0, .ref (eB E + 47)), (2, .int x2), (3, .int x3)] → W p l e (rm 7 0 0) s m args below meth c H locs 0 0 (MQ below (qq E none (sh_ b) (nn b) M1) args s 0 0 (fr E)) (F0 m 111 ls []) := by
  obtain ⟨hx, hb, hr, hml, hown, hts, hK, hN, hO, hlk, hbs⟩ := id X
  intro x2 x3 M H locs ls hf hR hl
  unfold fX11_leads_111 at hf
  obtain ⟨v111, e111⟩ : ∃ y : Int32, y = (x3 + (1 : Int32)) := ⟨_, rfl⟩
  have hf := nx_at e111 hf
  refine lv_iinc (v := v111) (lv' := [(3, .int v111), (0, .ref (eB E + 47)), (2, .int x2)]) hx hb dX11_leads_111 hl (k := 2) rfl (by rw [e111]; rfl) (by decide) rfl (fun ls hl => ?_)
  refine lv_goto (tgt := 42) hx hb dX11_leads_114 (by decide) ?_
  exact hk42 hf hR (lv_sub hl [1, 2, 0] rfl)
set_option maxHeartbeats 4000000 in
set_option maxRecDepth 100000 in
theorem wX11_leads_42 {M1 : Mem} {k117 : Int32 → Mem → Option Mem} (X : CX E p s m args c meth cX11_leads 5 none RX11) (hk117 : ∀ {x2 : Int32} {M : Mem} {H : Heap} {locs : List Loc} {ls : Array Slot}, k117 x2 M = some M1 → Rl E (sh_ b) (nn b) s.heap M H locs → lv_has ls 5 [(0, .ref (eB E + 47)), (2, .int x2)] → W p l e (rm 7 0 0) s m args below meth c H locs 0 0 (MQ below (qq E none (sh_ b) (nn b) M1) args s 0 0 (fr E)) (F0 m 117 ls [])) : ∀ (n : Nat) {x2 : Int32} {x3 : Int32} {M : Mem} {H : Heap} {locs : List Loc} {ls : Array Slot}, fX11_leads_42 k117 n x2 x3 M = some M1 → Rl E (sh_ b) (nn b) s.heap M H locs → lv_has ls 5 [(0, .ref (eB E + 47)), (2, .int x2), (3, .int x3)] → W p l e (rm 7 0 0) s m args below meth c H locs 0 0 (MQ below (qq E none (sh_ b) (nn b) M1) args s 0 0 (fr E)) (F0 m 42 ls []) := by
  obtain ⟨hx, hb, hr, hml, hown, hts, hK, hN, hO, hlk, hbs⟩ := id X
  intro n
  induction n with
  | zero =>
    intro x2 x3 M H locs ls hf hR hl
    exact absurd (show none = some _ from hf) (fun h => by cases h)
  | succ n ih =>
    intro x2 x3 M H locs ls hf hR hl
    rw [fX11_leads_42] at hf
    refine lv_iload_n hx hb dX11_leads_42 rfl (lv_at hl 2 rfl) ?_
    refine lv_aload_n hx hb dX11_leads_43 rfl (lv_at hl 0 rfl) ?_
    obtain ⟨q44, c44, hf⟩ := br_b hf
    refine x_callV (k := 47) (As := []) (rest := [.int x3]) (st1 := [.int q44, .int x3]) X hR (ctX11_places c44) ml_X11_242 im_X11_places se_X11_places in_X11 co_X11_places yo_X11_places rfl kX11 (z_47 b) (rm_ok (by decide) (by decide)) rfl hl.1 rfl rfl (Nat.le_of_ble_eq_true rfl) dX11_leads_44 ⟨Nat.zero_le _, Nat.zero_le _⟩ (fun H locs hR => ?_)
    refine lv_icmp_ge (tgt := 117) hx hb dX11_leads_47 (by decide) (fun q47 => ?_) (fun q47 => ?_)
    · have hf := (br_if hf).1 q47
      exact hk117 hf hR (lv_sub hl [0, 1] rfl)
    · have hf := (br_if hf).2 q47
      refine lv_aload_n hx hb dX11_leads_50 rfl (lv_at hl 0 rfl) ?_
      refine x_get hx hb hown hts hK hR kX11 (z_47 b) (j := 39) (by decide) fl_X11_94 (v := .ref (eB E + 87)) rfl dX11_leads_51 ?_
      refine lv_iload_n hx hb dX11_leads_54 rfl (lv_at hl 2 rfl) ?_
      obtain ⟨g55, hf⟩ := br_g hf
      refine x_iald hx hb hK hR (z_87 b) g55 dX11_leads_55 ?_
      refine lv_iconst (v := -1) hx hb dX11_leads_56 (by decide) ?_
      refine lv_icmp_eq (tgt := 63) hx hb dX11_leads_57 (by decide) (fun q57 => ?_) (fun q57 => ?_)
      · have hf := (br_if hf).1 q57
        refine lv_iconst (v := 0) hx hb dX11_leads_63 (by decide) ?_
        refine lv_istore (lv' := [(4, .int (0 : Int32)), (0, .ref (eB E + 47)), (2, .int x2), (3, .int x3)]) hx hb dX11_leads_64 hl (by decide) rfl (fun ls hl => ?_)
        exact wX11_leads_66 X (fun hf hR hl => wX11_leads_111 X (fun hf hR hl => ih hf hR hl) (fun hf hR hl => hk117 hf hR hl) hf hR hl) FU hf hR (lv_sub hl [1, 2, 3, 0] rfl)
      · have hf := (br_if hf).2 q57
        refine lv_goto (tgt := 111) hx hb dX11_leads_60 (by decide) ?_
        exact wX11_leads_111 X (fun hf hR hl => ih hf hR hl) (fun hf hR hl => hk117 hf hR hl) hf hR hl
set_option maxHeartbeats 4000000 in
set_option maxRecDepth 100000 in
theorem wX11_leads_117 {M1 : Mem} {k32 : Int32 → Mem → Option Mem} {k123 : Mem → Option Mem} (X : CX E p s m args c meth cX11_leads 5 none RX11) (hk32 : ∀ {x2 : Int32} {M : Mem} {H : Heap} {locs : List Loc} {ls : Array Slot}, k32 x2 M = some M1 → Rl E (sh_ b) (nn b) s.heap M H locs → lv_has ls 5 [(0, .ref (eB E + 47)), (2, .int x2)] → W p l e (rm 7 0 0) s m args below meth c H locs 0 0 (MQ below (qq E none (sh_ b) (nn b) M1) args s 0 0 (fr E)) (F0 m 32 ls [])) (hk123 : ∀ {M : Mem} {H : Heap} {locs : List Loc} {ls : Array Slot}, k123 M = some M1 → Rl E (sh_ b) (nn b) s.heap M H locs → lv_has ls 5 [] → W p l e (rm 7 0 0) s m args below meth c H locs 0 0 (MQ below (qq E none (sh_ b) (nn b) M1) args s 0 0 (fr E)) (F0 m 123 ls [])) : ∀ {x2 : Int32} {M : Mem} {H : Heap} {locs : List Loc} {ls : Array Slot}, fX11_leads_117 k32 k123 x2 M = some M1 → Rl E (sh_ b) (nn b) s.heap M H locs → lv_has ls 5 [(0, .ref (eB E + 47)), (2, .int x2)] → W p l e (rm 7 0 0) s m args below meth c H locs 0 0 (MQ below (qq E none (sh_ b) (nn b) M1) args s 0 0 (fr E)) (F0 m 117 ls []) := by
  obtain ⟨hx, hb, hr, hml, hown, hts, hK, hN, hO, hlk, hbs⟩ := id X
  intro x2 M H locs ls hf hR hl
  unfold fX11_leads_117 at hf
  obtain ⟨v117, e117⟩ : ∃ y : Int32, y = (x2 + (1 : Int32)) := ⟨_, rfl⟩
  have hf := nx_at e117 hf
  refine lv_iinc (v := v117) (lv' := [(2, .int v117), (0, .ref (eB E + 47))]) hx hb dX11_leads_117 hl (k := 1) rfl (by rw [e117]; rfl) (by decide) rfl (fun ls hl => ?_)
  refine lv_goto (tgt := 32) hx hb dX11_leads_120 (by decide) ?_
  exact hk32 hf hR (lv_sub hl [1, 0] rfl)
set_option maxHeartbeats 4000000 in
set_option maxRecDepth 100000 in
theorem wX11_leads_32 {M1 : Mem} {k123 : Mem → Option Mem} (X : CX E p s m args c meth cX11_leads 5 none RX11) (hk123 : ∀ {M : Mem} {H : Heap} {locs : List Loc} {ls : Array Slot}, k123 M = some M1 → Rl E (sh_ b) (nn b) s.heap M H locs → lv_has ls 5 [] → W p l e (rm 7 0 0) s m args below meth c H locs 0 0 (MQ below (qq E none (sh_ b) (nn b) M1) args s 0 0 (fr E)) (F0 m 123 ls [])) : ∀ (n : Nat) {x2 : Int32} {M : Mem} {H : Heap} {locs : List Loc} {ls : Array Slot}, fX11_leads_32 k123 n x2 M = some M1 → Rl E (sh_ b) (nn b) s.heap M H locs → lv_has ls 5 [(0, .ref (eB E + 47)), (2, .int x2)] → W p l e (rm 7 0 0) s m args below meth c H locs 0 0 (MQ below (qq E none (sh_ b) (nn b) M1) args s 0 0 (fr E)) (F0 m 32 ls []) := by
  obtain ⟨hx, hb, hr, hml, hown, hts, hK, hN, hO, hlk, hbs⟩ := id X
  intro n
  induction n with
  | zero =>
    intro x2 M H locs ls hf hR hl
    exact absurd (show none = some _ from hf) (fun h => by cases h)
  | succ n ih =>
    intro x2 M H locs ls hf hR hl
    rw [fX11_leads_32] at hf
    refine lv_iload_n hx hb dX11_leads_32 rfl (lv_at hl 1 rfl) ?_
    refine lv_aload_n hx hb dX11_leads_33 rfl (lv_at hl 0 rfl) ?_
    obtain ⟨q34, c34, hf⟩ := br_b hf
    refine x_callV (k := 47) (As := []) (rest := [.int x2]) (st1 := [.int q34, .int x2]) X hR (ctX11_places c34) ml_X11_242 im_X11_places se_X11_places in_X11 co_X11_places yo_X11_places rfl kX11 (z_47 b) (rm_ok (by decide) (by decide)) rfl hl.1 rfl rfl (Nat.le_of_ble_eq_true rfl) dX11_leads_34 ⟨Nat.zero_le _, Nat.zero_le _⟩ (fun H locs hR => ?_)
    refine lv_icmp_ge (tgt := 123) hx hb dX11_leads_37 (by decide) (fun q37 => ?_) (fun q37 => ?_)
    · have hf := (br_if hf).1 q37
      exact hk123 hf hR (lv_sub hl [] rfl)
    · have hf := (br_if hf).2 q37
      refine lv_iconst (v := 0) hx hb dX11_leads_40 (by decide) ?_
      refine lv_istore_n (lv' := [(3, .int (0 : Int32)), (0, .ref (eB E + 47)), (2, .int x2)]) hx hb dX11_leads_41 rfl hl (by decide) rfl (fun ls hl => ?_)
      exact wX11_leads_42 X (fun hf hR hl => wX11_leads_117 X (fun hf hR hl => ih hf hR hl) (fun hf hR hl => hk123 hf hR hl) hf hR hl) FU hf hR (lv_sub hl [1, 2, 0] rfl)
set_option maxHeartbeats 4000000 in
set_option maxRecDepth 100000 in
theorem wX11_leads_123 {M1 : Mem} (X : CX E p s m args c meth cX11_leads 5 none RX11) : ∀ {M : Mem} {H : Heap} {locs : List Loc} {ls : Array Slot}, fX11_leads_123 M = some M1 → Rl E (sh_ b) (nn b) s.heap M H locs → lv_has ls 5 [] → W p l e (rm 7 0 0) s m args below meth c H locs 0 0 (MQ below (qq E none (sh_ b) (nn b) M1) args s 0 0 (fr E)) (F0 m 123 ls []) := by
  obtain ⟨hx, hb, hr, hml, hown, hts, hK, hN, hO, hlk, hbs⟩ := id X
  intro M H locs ls hf hR hl
  unfold fX11_leads_123 at hf
  cases hf
  exact x_vret hx hb hr hlk hR dX11_leads_123
set_option maxHeartbeats 4000000 in
set_option maxRecDepth 100000 in
theorem wX11_leads_30 {M1 : Mem} (X : CX E p s m args c meth cX11_leads 5 none RX11) : ∀ {M : Mem} {H : Heap} {locs : List Loc} {ls : Array Slot}, fX11_leads_30 M = some M1 → Rl E (sh_ b) (nn b) s.heap M H locs → lv_has ls 5 [(0, .ref (eB E + 47))] → W p l e (rm 7 0 0) s m args below meth c H locs 0 0 (MQ below (qq E none (sh_ b) (nn b) M1) args s 0 0 (fr E)) (F0 m 30 ls []) := by
  obtain ⟨hx, hb, hr, hml, hown, hts, hK, hN, hO, hlk, hbs⟩ := id X
  intro M H locs ls hf hR hl
  unfold fX11_leads_30 at hf
  refine lv_iconst (v := 0) hx hb dX11_leads_30 (by decide) ?_
  refine lv_istore_n (lv' := [(2, .int (0 : Int32)), (0, .ref (eB E + 47))]) hx hb dX11_leads_31 rfl hl (by decide) rfl (fun ls hl => ?_)
  exact wX11_leads_32 X (fun hf hR hl => wX11_leads_123 X hf hR hl) FU hf hR (lv_sub hl [1, 0] rfl)
set_option maxHeartbeats 4000000 in
set_option maxRecDepth 100000 in
theorem wX11_leads_0 {M1 : Mem} (X : CX E p s m args c meth cX11_leads 5 none RX11) : ∀ {x1 : Int32} {M : Mem} {H : Heap} {locs : List Loc} {ls : Array Slot}, fX11_leads x1 M = some M1 → Rl E (sh_ b) (nn b) s.heap M H locs → lv_has ls 5 [(0, .ref (eB E + 47)), (1, .int x1)] → W p l e (rm 7 0 0) s m args below meth c H locs 0 0 (MQ below (qq E none (sh_ b) (nn b) M1) args s 0 0 (fr E)) (F0 m 0 ls []) := by
  obtain ⟨hx, hb, hr, hml, hown, hts, hK, hN, hO, hlk, hbs⟩ := id X
  intro x1 M H locs ls hf hR hl
  unfold fX11_leads at hf
  refine lv_iconst (v := 0) hx hb dX11_leads_0 (by decide) ?_
  refine lv_istore_n (lv' := [(2, .int (0 : Int32)), (0, .ref (eB E + 47)), (1, .int x1)]) hx hb dX11_leads_1 rfl hl (by decide) rfl (fun ls hl => ?_)
  exact wX11_leads_2 X (fun hf hR hl => wX11_leads_30 X hf hR hl) FU hf hR (lv_sub hl [1, 2, 0] rfl)
theorem ctX11_leads {l : Launch} {E : Ge} {b : Bool} {M : Mem} {x1 : Int32} {M1 : Mem} (h : fX11_leads x1 M = some M1) : CT l E yX11_leads cX11_leads 5 none 7 0 0 [.ref (eB E + 47), .int x1] none (sh_ b) (nn b) M (sh_ b) (nn b) M1 := by
  refine met_of (by decide) (Nat.le_of_ble_eq_true rfl) ?_
  intro p e s m args below meth c X _ hR ls hl
  exact wX11_leads_0 X h hR hl
def fX11_isReached_7 (k25 : Mem → Option (Int32 × Mem)) (k33 : Mem → Option (Int32 × Mem)) : Nat → Int32 → Mem → Option (Int32 × Mem)
  | 0, _, _ => none
  | n + 1, x2, M => (fX11_places M).bind (fun q9 => (if q9 ≤ x2 then k33 M else (if inb x2 20 = true then (if (M.1 87 (ix x2)) = (-1 : Int32) then k25 M else nx (x2 + (1 : Int32)) (fun v27 => fX11_isReached_7 k25 k33 n v27 M)) else none)))
def fX11_isReached_25 (M : Mem) : Option (Int32 × Mem) := some ((0 : Int32), M)
def fX11_isReached_33 (M : Mem) : Option (Int32 × Mem) := some ((1 : Int32), M)
def fX11_isReached (x1 : Int32) (M : Mem) : Option (Int32 × Mem) := (fX11_leads x1 M).bind (fun q2 => fX11_isReached_7 fX11_isReached_25 fX11_isReached_33 FU (0 : Int32) q2)
set_option maxHeartbeats 4000000 in
set_option maxRecDepth 100000 in
theorem wX11_isReached_7 {r : Int32} {M1 : Mem} {k25 : Mem → Option (Int32 × Mem)} {k33 : Mem → Option (Int32 × Mem)} (X : CX E p s m args c meth cX11_isReached 3 (some .boolean) RX11) (hk25 : ∀ {M : Mem} {H : Heap} {locs : List Loc} {ls : Array Slot}, k25 M = some (r, M1) → Rl E (sh_ b) (nn b) s.heap M H locs → lv_has ls 3 [] → W p l e (rm 8 0 0) s m args below meth c H locs 0 0 (MQ below (qq E (some (.int r)) (sh_ b) (nn b) M1) args s 0 0 (fr E)) (F0 m 25 ls [])) (hk33 : ∀ {M : Mem} {H : Heap} {locs : List Loc} {ls : Array Slot}, k33 M = some (r, M1) → Rl E (sh_ b) (nn b) s.heap M H locs → lv_has ls 3 [] → W p l e (rm 8 0 0) s m args below meth c H locs 0 0 (MQ below (qq E (some (.int r)) (sh_ b) (nn b) M1) args s 0 0 (fr E)) (F0 m 33 ls [])) : ∀ (n : Nat) {x2 : Int32} {M : Mem} {H : Heap} {locs : List Loc} {ls : Array Slot}, fX11_isReached_7 k25 k33 n x2 M = some (r, M1) → Rl E (sh_ b) (nn b) s.heap M H locs → lv_has ls 3 [(0, .ref (eB E + 47)), (2, .int x2)] → W p l e (rm 8 0 0) s m args below meth c H locs 0 0 (MQ below (qq E (some (.int r)) (sh_ b) (nn b) M1) args s 0 0 (fr E)) (F0 m 7 ls []) := by
  obtain ⟨hx, hb, hr, hml, hown, hts, hK, hN, hO, hlk, hbs⟩ := id X
  intro n
  induction n with
  | zero =>
    intro x2 M H locs ls hf hR hl
    exact absurd (show none = some _ from hf) (fun h => by cases h)
  | succ n ih =>
    intro x2 M H locs ls hf hR hl
    rw [fX11_isReached_7] at hf
    refine lv_iload_n hx hb dX11_isReached_7 rfl (lv_at hl 1 rfl) ?_
    refine lv_aload_n hx hb dX11_isReached_8 rfl (lv_at hl 0 rfl) ?_
    obtain ⟨q9, c9, hf⟩ := br_b hf
    refine x_callV (k := 47) (As := []) (rest := [.int x2]) (st1 := [.int q9, .int x2]) X hR (ctX11_places c9) ml_X11_242 im_X11_places se_X11_places in_X11 co_X11_places yo_X11_places rfl kX11 (z_47 b) (rm_ok (by decide) (by decide)) rfl hl.1 rfl rfl (Nat.le_of_ble_eq_true rfl) dX11_isReached_9 ⟨Nat.zero_le _, Nat.zero_le _⟩ (fun H locs hR => ?_)
    refine lv_icmp_ge (tgt := 33) hx hb dX11_isReached_12 (by decide) (fun q12 => ?_) (fun q12 => ?_)
    · have hf := (br_if hf).1 q12
      exact hk33 hf hR (lv_sub hl [] rfl)
    · have hf := (br_if hf).2 q12
      refine lv_aload_n hx hb dX11_isReached_15 rfl (lv_at hl 0 rfl) ?_
      refine x_get hx hb hown hts hK hR kX11 (z_47 b) (j := 39) (by decide) fl_X11_94 (v := .ref (eB E + 87)) rfl dX11_isReached_16 ?_
      refine lv_iload_n hx hb dX11_isReached_19 rfl (lv_at hl 1 rfl) ?_
      obtain ⟨g20, hf⟩ := br_g hf
      refine x_iald hx hb hK hR (z_87 b) g20 dX11_isReached_20 ?_
      refine lv_iconst (v := -1) hx hb dX11_isReached_21 (by decide) ?_
      refine lv_icmp_ne (tgt := 27) hx hb dX11_isReached_22 (by decide) (fun q22 => ?_) (fun q22 => ?_)
      · have hf := (br_if hf).2 q22
        obtain ⟨v27, e27⟩ : ∃ y : Int32, y = (x2 + (1 : Int32)) := ⟨_, rfl⟩
        have hf := nx_at e27 hf
        refine lv_iinc (v := v27) (lv' := [(2, .int v27), (0, .ref (eB E + 47))]) hx hb dX11_isReached_27 hl (k := 1) rfl (by rw [e27]; rfl) (by decide) rfl (fun ls hl => ?_)
        refine lv_goto (tgt := 7) hx hb dX11_isReached_30 (by decide) ?_
        exact ih hf hR (lv_sub hl [1, 0] rfl)
      · have hf := (br_if hf).1 q22
        exact hk25 hf hR (lv_sub hl [] rfl)
set_option maxHeartbeats 4000000 in
set_option maxRecDepth 100000 in
theorem wX11_isReached_25 {r : Int32} {M1 : Mem} (X : CX E p s m args c meth cX11_isReached 3 (some .boolean) RX11) : ∀ {M : Mem} {H : Heap} {locs : List Loc} {ls : Array Slot}, fX11_isReached_25 M = some (r, M1) → Rl E (sh_ b) (nn b) s.heap M H locs → lv_has ls 3 [] → W p l e (rm 8 0 0) s m args below meth c H locs 0 0 (MQ below (qq E (some (.int r)) (sh_ b) (nn b) M1) args s 0 0 (fr E)) (F0 m 25 ls []) := by
  obtain ⟨hx, hb, hr, hml, hown, hts, hK, hN, hO, hlk, hbs⟩ := id X
  intro M H locs ls hf hR hl
  unfold fX11_isReached_25 at hf
  refine lv_iconst (v := 0) hx hb dX11_isReached_25 (by decide) ?_
  cases hf
  exact x_zret hx hb hr hlk hR (by decide) dX11_isReached_26
set_option maxHeartbeats 4000000 in
set_option maxRecDepth 100000 in
theorem wX11_isReached_33 {r : Int32} {M1 : Mem} (X : CX E p s m args c meth cX11_isReached 3 (some .boolean) RX11) : ∀ {M : Mem} {H : Heap} {locs : List Loc} {ls : Array Slot}, fX11_isReached_33 M = some (r, M1) → Rl E (sh_ b) (nn b) s.heap M H locs → lv_has ls 3 [] → W p l e (rm 8 0 0) s m args below meth c H locs 0 0 (MQ below (qq E (some (.int r)) (sh_ b) (nn b) M1) args s 0 0 (fr E)) (F0 m 33 ls []) := by
  obtain ⟨hx, hb, hr, hml, hown, hts, hK, hN, hO, hlk, hbs⟩ := id X
  intro M H locs ls hf hR hl
  unfold fX11_isReached_33 at hf
  refine lv_iconst (v := 1) hx hb dX11_isReached_33 (by decide) ?_
  cases hf
  exact x_zret hx hb hr hlk hR (by decide) dX11_isReached_34
set_option maxHeartbeats 4000000 in
set_option maxRecDepth 100000 in
theorem wX11_isReached_0 {r : Int32} {M1 : Mem} (X : CX E p s m args c meth cX11_isReached 3 (some .boolean) RX11) : ∀ {x1 : Int32} {M : Mem} {H : Heap} {locs : List Loc} {ls : Array Slot}, fX11_isReached x1 M = some (r, M1) → Rl E (sh_ b) (nn b) s.heap M H locs → lv_has ls 3 [(0, .ref (eB E + 47)), (1, .int x1)] → W p l e (rm 8 0 0) s m args below meth c H locs 0 0 (MQ below (qq E (some (.int r)) (sh_ b) (nn b) M1) args s 0 0 (fr E)) (F0 m 0 ls []) := by
  obtain ⟨hx, hb, hr, hml, hown, hts, hK, hN, hO, hlk, hbs⟩ := id X
  intro x1 M H locs ls hf hR hl
  unfold fX11_isReached at hf
  refine lv_aload_n hx hb dX11_isReached_0 rfl (lv_at hl 0 rfl) ?_
  refine lv_iload_n hx hb dX11_isReached_1 rfl (lv_at hl 1 rfl) ?_
  obtain ⟨q2, c2, hf⟩ := br_b hf
  refine x_callV (k := 47) (As := [.int x1]) (rest := []) (st1 := []) X hR (ctX11_leads c2) ml_X11_360 im_X11_leads se_X11_leads in_X11 co_X11_leads yo_X11_leads rfl kX11 (z_47 b) (rm_ok (by decide) (by decide)) rfl hl.1 rfl rfl (Nat.le_of_ble_eq_true rfl) dX11_isReached_2 ⟨Nat.zero_le _, Nat.zero_le _⟩ (fun H locs hR => ?_)
  refine lv_iconst (v := 0) hx hb dX11_isReached_5 (by decide) ?_
  refine lv_istore_n (lv' := [(2, .int (0 : Int32)), (0, .ref (eB E + 47)), (1, .int x1)]) hx hb dX11_isReached_6 rfl hl (by decide) rfl (fun ls hl => ?_)
  exact wX11_isReached_7 X (fun hf hR hl => wX11_isReached_25 X hf hR hl) (fun hf hR hl => wX11_isReached_33 X hf hR hl) FU hf hR (lv_sub hl [1, 0] rfl)
theorem ctX11_isReached {l : Launch} {E : Ge} {b : Bool} {M : Mem} {x1 : Int32} {r : Int32} {M1 : Mem} (h : fX11_isReached x1 M = some (r, M1)) : CT l E yX11_isReached cX11_isReached 3 (some .boolean) 8 0 0 [.ref (eB E + 47), .int x1] (some (.int r)) (sh_ b) (nn b) M (sh_ b) (nn b) M1 := by
  refine met_of (by decide) (Nat.le_of_ble_eq_true rfl) ?_
  intro p e s m args below meth c X _ hR ls hl
  exact wX11_isReached_0 X h hR hl
def fX11_best_17 (M : Mem) : Option (Int32 × Mem) := some ((-1 : Int32), M)
def fX11_best_62 (k23 : Int32 → Int32 → Int32 → Mem → Option (Int32 × Mem)) (k70 : Int32 → Mem → Option (Int32 × Mem)) (x1 : Int32) (x3 : Int32) (s0 : Int32) (s1 : Int32) (M : Mem) : Option (Int32 × Mem) := nx (s0 ||| s1) (fun v63 => nx (x3 + (1 : Int32)) (fun v64 => k23 x1 v63 v64 M))
def fX11_best_55 (k23 : Int32 → Int32 → Int32 → Mem → Option (Int32 × Mem)) (k70 : Int32 → Mem → Option (Int32 × Mem)) (x1 : Int32) (x3 : Int32) (s0 : Int32) (M : Mem) : Option (Int32 × Mem) := fX11_best_62 k23 k70 x1 x3 s0 (((1 : Int32) <<< (x3 &&& 31))) M
def fX11_best_61 (k23 : Int32 → Int32 → Int32 → Mem → Option (Int32 × Mem)) (k70 : Int32 → Mem → Option (Int32 × Mem)) (x1 : Int32) (x3 : Int32) (s0 : Int32) (M : Mem) : Option (Int32 × Mem) := fX11_best_62 k23 k70 x1 x3 s0 (0 : Int32) M
def fX11_best_23 (k70 : Int32 → Mem → Option (Int32 × Mem)) : Nat → Int32 → Int32 → Int32 → Mem → Option (Int32 × Mem)
  | 0, _, _, _, _ => none
  | n + 1, x1, x2, x3, M => (fX11_places M).bind (fun q25 => (if q25 ≤ x3 then k70 x2 M else (if x1 = 0 then (fX11_isReached x3 M).bind (fun q38 => (if q38.1 = 0 then fX11_best_61 (fX11_best_23 k70 n) k70 x1 x3 x2 (q38.2) else fX11_best_55 (fX11_best_23 k70 n) k70 x1 x3 x2 (q38.2))) else (fX11_isOpen M x3).bind (fun q49 => (if q49 = 0 then fX11_best_61 (fX11_best_23 k70 n) k70 x1 x3 x2 M else fX11_best_55 (fX11_best_23 k70 n) k70 x1 x3 x2 M)))))
def fX11_best_70 (x2 : Int32) (M : Mem) : Option (Int32 × Mem) := some (x2, M)
def fX11_best (x1 : Int32) (M : Mem) : Option (Int32 × Mem) := (fX11_voters M).bind (fun q1 => (if q1 = 0 then fX11_best_17 M else (fX11_in M (x1.toInt64) (0 : Int64) (1 : Int64)).bind (fun q11 => (if q11 = 0 then fX11_best_17 M else fX11_best_23 fX11_best_70 FU x1 (0 : Int32) (0 : Int32) M))))
set_option maxHeartbeats 4000000 in
set_option maxRecDepth 100000 in
theorem wX11_best_17 {r : Int32} {M1 : Mem} (X : CX E p s m args c meth cX11_best 4 (some .int) RX11) : ∀ {M : Mem} {H : Heap} {locs : List Loc} {ls : Array Slot}, fX11_best_17 M = some (r, M1) → Rl E (sh_ b) (nn b) s.heap M H locs → lv_has ls 4 [] → W p l e (rm 9 0 0) s m args below meth c H locs 0 0 (MQ below (qq E (some (.int r)) (sh_ b) (nn b) M1) args s 0 0 (fr E)) (F0 m 17 ls []) := by
  obtain ⟨hx, hb, hr, hml, hown, hts, hK, hN, hO, hlk, hbs⟩ := id X
  intro M H locs ls hf hR hl
  unfold fX11_best_17 at hf
  refine lv_iconst (v := -1) hx hb dX11_best_17 (by decide) ?_
  cases hf
  exact x_iret hx hb hr hlk hR dX11_best_18
set_option maxHeartbeats 4000000 in
set_option maxRecDepth 100000 in
theorem wX11_best_62 {r : Int32} {M1 : Mem} {k23 : Int32 → Int32 → Int32 → Mem → Option (Int32 × Mem)} {k70 : Int32 → Mem → Option (Int32 × Mem)} (X : CX E p s m args c meth cX11_best 4 (some .int) RX11) (hk23 : ∀ {x1 : Int32} {x2 : Int32} {x3 : Int32} {M : Mem} {H : Heap} {locs : List Loc} {ls : Array Slot}, k23 x1 x2 x3 M = some (r, M1) → Rl E (sh_ b) (nn b) s.heap M H locs → lv_has ls 4 [(0, .ref (eB E + 47)), (1, .int x1), (2, .int x2), (3, .int x3)] → W p l e (rm 9 0 0) s m args below meth c H locs 0 0 (MQ below (qq E (some (.int r)) (sh_ b) (nn b) M1) args s 0 0 (fr E)) (F0 m 23 ls [])) (hk70 : ∀ {x2 : Int32} {M : Mem} {H : Heap} {locs : List Loc} {ls : Array Slot}, k70 x2 M = some (r, M1) → Rl E (sh_ b) (nn b) s.heap M H locs → lv_has ls 4 [(2, .int x2)] → W p l e (rm 9 0 0) s m args below meth c H locs 0 0 (MQ below (qq E (some (.int r)) (sh_ b) (nn b) M1) args s 0 0 (fr E)) (F0 m 70 ls [])) : ∀ {x1 : Int32} {x3 : Int32} {s0 : Int32} {s1 : Int32} {M : Mem} {H : Heap} {locs : List Loc} {ls : Array Slot}, fX11_best_62 k23 k70 x1 x3 s0 s1 M = some (r, M1) → Rl E (sh_ b) (nn b) s.heap M H locs → lv_has ls 4 [(0, .ref (eB E + 47)), (1, .int x1), (3, .int x3)] → W p l e (rm 9 0 0) s m args below meth c H locs 0 0 (MQ below (qq E (some (.int r)) (sh_ b) (nn b) M1) args s 0 0 (fr E)) (F0 m 62 ls [.int s1, .int s0]) := by
  obtain ⟨hx, hb, hr, hml, hown, hts, hK, hN, hO, hlk, hbs⟩ := id X
  intro x1 x3 s0 s1 M H locs ls hf hR hl
  unfold fX11_best_62 at hf
  refine lv_ior hx hb dX11_best_62 ?_
  refine lv_topi (fun v63 e63 => ?_)
  have hf := nx_at e63 hf
  refine lv_istore_n (lv' := [(2, .int v63), (0, .ref (eB E + 47)), (1, .int x1), (3, .int x3)]) hx hb dX11_best_63 rfl hl (by decide) rfl (fun ls hl => ?_)
  obtain ⟨v64, e64⟩ : ∃ y : Int32, y = (x3 + (1 : Int32)) := ⟨_, rfl⟩
  have hf := nx_at e64 hf
  refine lv_iinc (v := v64) (lv' := [(3, .int v64), (2, .int v63), (0, .ref (eB E + 47)), (1, .int x1)]) hx hb dX11_best_64 hl (k := 3) rfl (by rw [e64]; rfl) (by decide) rfl (fun ls hl => ?_)
  refine lv_goto (tgt := 23) hx hb dX11_best_67 (by decide) ?_
  exact hk23 hf hR (lv_sub hl [2, 3, 1, 0] rfl)
set_option maxHeartbeats 4000000 in
set_option maxRecDepth 100000 in
theorem wX11_best_55 {r : Int32} {M1 : Mem} {k23 : Int32 → Int32 → Int32 → Mem → Option (Int32 × Mem)} {k70 : Int32 → Mem → Option (Int32 × Mem)} (X : CX E p s m args c meth cX11_best 4 (some .int) RX11) (hk23 : ∀ {x1 : Int32} {x2 : Int32} {x3 : Int32} {M : Mem} {H : Heap} {locs : List Loc} {ls : Array Slot}, k23 x1 x2 x3 M = some (r, M1) → Rl E (sh_ b) (nn b) s.heap M H locs → lv_has ls 4 [(0, .ref (eB E + 47)), (1, .int x1), (2, .int x2), (3, .int x3)] → W p l e (rm 9 0 0) s m args below meth c H locs 0 0 (MQ below (qq E (some (.int r)) (sh_ b) (nn b) M1) args s 0 0 (fr E)) (F0 m 23 ls [])) (hk70 : ∀ {x2 : Int32} {M : Mem} {H : Heap} {locs : List Loc} {ls : Array Slot}, k70 x2 M = some (r, M1) → Rl E (sh_ b) (nn b) s.heap M H locs → lv_has ls 4 [(2, .int x2)] → W p l e (rm 9 0 0) s m args below meth c H locs 0 0 (MQ below (qq E (some (.int r)) (sh_ b) (nn b) M1) args s 0 0 (fr E)) (F0 m 70 ls [])) : ∀ {x1 : Int32} {x3 : Int32} {s0 : Int32} {M : Mem} {H : Heap} {locs : List Loc} {ls : Array Slot}, fX11_best_55 k23 k70 x1 x3 s0 M = some (r, M1) → Rl E (sh_ b) (nn b) s.heap M H locs → lv_has ls 4 [(0, .ref (eB E + 47)), (1, .int x1), (3, .int x3)] → W p l e (rm 9 0 0) s m args below meth c H locs 0 0 (MQ below (qq E (some (.int r)) (sh_ b) (nn b) M1) args s 0 0 (fr E)) (F0 m 55 ls [.int s0]) := by
  obtain ⟨hx, hb, hr, hml, hown, hts, hK, hN, hO, hlk, hbs⟩ := id X
  intro x1 x3 s0 M H locs ls hf hR hl
  unfold fX11_best_55 at hf
  refine lv_iconst (v := 1) hx hb dX11_best_55 (by decide) ?_
  refine lv_iload_n hx hb dX11_best_56 rfl (lv_at hl 2 rfl) ?_
  refine lv_ishl hx hb dX11_best_57 ?_
  refine lv_goto (tgt := 62) hx hb dX11_best_58 (by decide) ?_
  exact wX11_best_62 X (fun hf hR hl => hk23 hf hR hl) (fun hf hR hl => hk70 hf hR hl) hf hR hl
set_option maxHeartbeats 4000000 in
set_option maxRecDepth 100000 in
theorem wX11_best_61 {r : Int32} {M1 : Mem} {k23 : Int32 → Int32 → Int32 → Mem → Option (Int32 × Mem)} {k70 : Int32 → Mem → Option (Int32 × Mem)} (X : CX E p s m args c meth cX11_best 4 (some .int) RX11) (hk23 : ∀ {x1 : Int32} {x2 : Int32} {x3 : Int32} {M : Mem} {H : Heap} {locs : List Loc} {ls : Array Slot}, k23 x1 x2 x3 M = some (r, M1) → Rl E (sh_ b) (nn b) s.heap M H locs → lv_has ls 4 [(0, .ref (eB E + 47)), (1, .int x1), (2, .int x2), (3, .int x3)] → W p l e (rm 9 0 0) s m args below meth c H locs 0 0 (MQ below (qq E (some (.int r)) (sh_ b) (nn b) M1) args s 0 0 (fr E)) (F0 m 23 ls [])) (hk70 : ∀ {x2 : Int32} {M : Mem} {H : Heap} {locs : List Loc} {ls : Array Slot}, k70 x2 M = some (r, M1) → Rl E (sh_ b) (nn b) s.heap M H locs → lv_has ls 4 [(2, .int x2)] → W p l e (rm 9 0 0) s m args below meth c H locs 0 0 (MQ below (qq E (some (.int r)) (sh_ b) (nn b) M1) args s 0 0 (fr E)) (F0 m 70 ls [])) : ∀ {x1 : Int32} {x3 : Int32} {s0 : Int32} {M : Mem} {H : Heap} {locs : List Loc} {ls : Array Slot}, fX11_best_61 k23 k70 x1 x3 s0 M = some (r, M1) → Rl E (sh_ b) (nn b) s.heap M H locs → lv_has ls 4 [(0, .ref (eB E + 47)), (1, .int x1), (3, .int x3)] → W p l e (rm 9 0 0) s m args below meth c H locs 0 0 (MQ below (qq E (some (.int r)) (sh_ b) (nn b) M1) args s 0 0 (fr E)) (F0 m 61 ls [.int s0]) := by
  obtain ⟨hx, hb, hr, hml, hown, hts, hK, hN, hO, hlk, hbs⟩ := id X
  intro x1 x3 s0 M H locs ls hf hR hl
  unfold fX11_best_61 at hf
  refine lv_iconst (v := 0) hx hb dX11_best_61 (by decide) ?_
  exact wX11_best_62 X (fun hf hR hl => hk23 hf hR hl) (fun hf hR hl => hk70 hf hR hl) hf hR hl
set_option maxHeartbeats 4000000 in
set_option maxRecDepth 100000 in
theorem wX11_best_23 {r : Int32} {M1 : Mem} {k70 : Int32 → Mem → Option (Int32 × Mem)} (X : CX E p s m args c meth cX11_best 4 (some .int) RX11) (hk70 : ∀ {x2 : Int32} {M : Mem} {H : Heap} {locs : List Loc} {ls : Array Slot}, k70 x2 M = some (r, M1) → Rl E (sh_ b) (nn b) s.heap M H locs → lv_has ls 4 [(2, .int x2)] → W p l e (rm 9 0 0) s m args below meth c H locs 0 0 (MQ below (qq E (some (.int r)) (sh_ b) (nn b) M1) args s 0 0 (fr E)) (F0 m 70 ls [])) : ∀ (n : Nat) {x1 : Int32} {x2 : Int32} {x3 : Int32} {M : Mem} {H : Heap} {locs : List Loc} {ls : Array Slot}, fX11_best_23 k70 n x1 x2 x3 M = some (r, M1) → Rl E (sh_ b) (nn b) s.heap M H locs → lv_has ls 4 [(0, .ref (eB E + 47)), (1, .int x1), (2, .int x2), (3, .int x3)] → W p l e (rm 9 0 0) s m args below meth c H locs 0 0 (MQ below (qq E (some (.int r)) (sh_ b) (nn b) M1) args s 0 0 (fr E)) (F0 m 23 ls []) := by
  obtain ⟨hx, hb, hr, hml, hown, hts, hK, hN, hO, hlk, hbs⟩ := id X
  intro n
  induction n with
  | zero =>
    intro x1 x2 x3 M H locs ls hf hR hl
    exact absurd (show none = some _ from hf) (fun h => by cases h)
  | succ n ih =>
    intro x1 x2 x3 M H locs ls hf hR hl
    rw [fX11_best_23] at hf
    refine lv_iload_n hx hb dX11_best_23 rfl (lv_at hl 3 rfl) ?_
    refine lv_aload_n hx hb dX11_best_24 rfl (lv_at hl 0 rfl) ?_
    obtain ⟨q25, c25, hf⟩ := br_b hf
    refine x_callV (k := 47) (As := []) (rest := [.int x3]) (st1 := [.int q25, .int x3]) X hR (ctX11_places c25) ml_X11_242 im_X11_places se_X11_places in_X11 co_X11_places yo_X11_places rfl kX11 (z_47 b) (rm_ok (by decide) (by decide)) rfl hl.1 rfl rfl (Nat.le_of_ble_eq_true rfl) dX11_best_25 ⟨Nat.zero_le _, Nat.zero_le _⟩ (fun H locs hR => ?_)
    refine lv_icmp_ge (tgt := 70) hx hb dX11_best_28 (by decide) (fun q28 => ?_) (fun q28 => ?_)
    · have hf := (br_if hf).1 q28
      exact hk70 hf hR (lv_sub hl [2] rfl)
    · have hf := (br_if hf).2 q28
      refine lv_iload_n hx hb dX11_best_31 rfl (lv_at hl 2 rfl) ?_
      refine lv_iload_n hx hb dX11_best_32 rfl (lv_at hl 1 rfl) ?_
      refine lv_if_ne (tgt := 47) hx hb dX11_best_33 (by decide) (fun q33 => ?_) (fun q33 => ?_)
      · have hf := (br_if hf).2 q33
        refine lv_aload_n hx hb dX11_best_47 rfl (lv_at hl 0 rfl) ?_
        refine lv_iload_n hx hb dX11_best_48 rfl (lv_at hl 3 rfl) ?_
        obtain ⟨q49, c49, hf⟩ := br_b hf
        refine x_callV (k := 47) (As := [.int x3]) (rest := [.int x2]) (st1 := [.int q49, .int x2]) X hR (ctX11_isOpen c49) ml_X11_369 im_X11_isOpen se_X11_isOpen in_X11 co_X11_isOpen yo_X11_isOpen rfl kX11 (z_47 b) (rm_ok (by decide) (by decide)) rfl hl.1 rfl rfl (Nat.le_of_ble_eq_true rfl) dX11_best_49 ⟨Nat.zero_le _, Nat.zero_le _⟩ (fun H locs hR => ?_)
        refine lv_if_eq (tgt := 61) hx hb dX11_best_52 (by decide) (fun q52 => ?_) (fun q52 => ?_)
        · have hf := (br_if hf).1 q52
          exact wX11_best_61 X (fun hf hR hl => ih hf hR hl) (fun hf hR hl => hk70 hf hR hl) hf hR (lv_sub hl [0, 1, 3] rfl)
        · have hf := (br_if hf).2 q52
          exact wX11_best_55 X (fun hf hR hl => ih hf hR hl) (fun hf hR hl => hk70 hf hR hl) hf hR (lv_sub hl [0, 1, 3] rfl)
      · have hf := (br_if hf).1 q33
        refine lv_aload_n hx hb dX11_best_36 rfl (lv_at hl 0 rfl) ?_
        refine lv_iload_n hx hb dX11_best_37 rfl (lv_at hl 3 rfl) ?_
        obtain ⟨q38, c38, hf⟩ := br_b hf
        refine x_callV (k := 47) (As := [.int x3]) (rest := [.int x2]) (st1 := [.int q38.1, .int x2]) X hR (ctX11_isReached c38) ml_X11_366 im_X11_isReached se_X11_isReached in_X11 co_X11_isReached yo_X11_isReached rfl kX11 (z_47 b) (rm_ok (by decide) (by decide)) rfl hl.1 rfl rfl (Nat.le_of_ble_eq_true rfl) dX11_best_38 ⟨Nat.zero_le _, Nat.zero_le _⟩ (fun H locs hR => ?_)
        refine lv_if_eq (tgt := 61) hx hb dX11_best_41 (by decide) (fun q41 => ?_) (fun q41 => ?_)
        · have hf := (br_if hf).1 q41
          exact wX11_best_61 X (fun hf hR hl => ih hf hR hl) (fun hf hR hl => hk70 hf hR hl) hf hR (lv_sub hl [0, 1, 3] rfl)
        · have hf := (br_if hf).2 q41
          refine lv_goto (tgt := 55) hx hb dX11_best_44 (by decide) ?_
          exact wX11_best_55 X (fun hf hR hl => ih hf hR hl) (fun hf hR hl => hk70 hf hR hl) hf hR (lv_sub hl [0, 1, 3] rfl)
set_option maxHeartbeats 4000000 in
set_option maxRecDepth 100000 in
theorem wX11_best_70 {r : Int32} {M1 : Mem} (X : CX E p s m args c meth cX11_best 4 (some .int) RX11) : ∀ {x2 : Int32} {M : Mem} {H : Heap} {locs : List Loc} {ls : Array Slot}, fX11_best_70 x2 M = some (r, M1) → Rl E (sh_ b) (nn b) s.heap M H locs → lv_has ls 4 [(2, .int x2)] → W p l e (rm 9 0 0) s m args below meth c H locs 0 0 (MQ below (qq E (some (.int r)) (sh_ b) (nn b) M1) args s 0 0 (fr E)) (F0 m 70 ls []) := by
  obtain ⟨hx, hb, hr, hml, hown, hts, hK, hN, hO, hlk, hbs⟩ := id X
  intro x2 M H locs ls hf hR hl
  unfold fX11_best_70 at hf
  refine lv_iload_n hx hb dX11_best_70 rfl (lv_at hl 0 rfl) ?_
  cases hf
  exact x_iret hx hb hr hlk hR dX11_best_71
set_option maxHeartbeats 4000000 in
set_option maxRecDepth 100000 in
theorem wX11_best_0 {r : Int32} {M1 : Mem} (X : CX E p s m args c meth cX11_best 4 (some .int) RX11) : ∀ {x1 : Int32} {M : Mem} {H : Heap} {locs : List Loc} {ls : Array Slot}, fX11_best x1 M = some (r, M1) → Rl E (sh_ b) (nn b) s.heap M H locs → lv_has ls 4 [(0, .ref (eB E + 47)), (1, .int x1)] → W p l e (rm 9 0 0) s m args below meth c H locs 0 0 (MQ below (qq E (some (.int r)) (sh_ b) (nn b) M1) args s 0 0 (fr E)) (F0 m 0 ls []) := by
  obtain ⟨hx, hb, hr, hml, hown, hts, hK, hN, hO, hlk, hbs⟩ := id X
  intro x1 M H locs ls hf hR hl
  unfold fX11_best at hf
  refine lv_aload_n hx hb dX11_best_0 rfl (lv_at hl 0 rfl) ?_
  obtain ⟨q1, c1, hf⟩ := br_b hf
  refine x_callV (k := 47) (As := []) (rest := []) (st1 := [.int q1]) X hR (ctX11_voters c1) ml_X11_237 im_X11_voters se_X11_voters in_X11 co_X11_voters yo_X11_voters rfl kX11 (z_47 b) (rm_ok (by decide) (by decide)) rfl hl.1 rfl rfl (Nat.le_of_ble_eq_true rfl) dX11_best_1 ⟨Nat.zero_le _, Nat.zero_le _⟩ (fun H locs hR => ?_)
  refine lv_if_eq (tgt := 17) hx hb dX11_best_4 (by decide) (fun q4 => ?_) (fun q4 => ?_)
  · have hf := (br_if hf).1 q4
    exact wX11_best_17 X hf hR (lv_sub hl [] rfl)
  · have hf := (br_if hf).2 q4
    refine lv_iload_n hx hb dX11_best_7 rfl (lv_at hl 1 rfl) ?_
    refine lv_i2l (v := x1.toInt64) hx hb dX11_best_8 rfl ?_
    refine lv_lconst (v := 0) hx hb dX11_best_9 (by decide) ?_
    refine lv_lconst (v := 1) hx hb dX11_best_10 (by decide) ?_
    obtain ⟨q11, c11, hf⟩ := br_b hf
    refine x_callS (As := [.long x1.toInt64, .long (0 : Int64), .long (1 : Int64)]) (rest := []) (st1 := [.int q11]) X hR (ctX11_in c11) ml_X11_122 st_X11_in in_X11 co_X11_in yo_X11_in (rm_ok (by decide) (by decide)) rfl hl.1 rfl rfl (Nat.le_of_ble_eq_true rfl) dX11_best_11 ⟨Nat.zero_le _, Nat.zero_le _⟩ (fun H locs hR => ?_)
    refine lv_if_ne (tgt := 19) hx hb dX11_best_14 (by decide) (fun q14 => ?_) (fun q14 => ?_)
    · have hf := (br_if hf).2 q14
      refine lv_iconst (v := 0) hx hb dX11_best_19 (by decide) ?_
      refine lv_istore_n (lv' := [(2, .int (0 : Int32)), (0, .ref (eB E + 47)), (1, .int x1)]) hx hb dX11_best_20 rfl hl (by decide) rfl (fun ls hl => ?_)
      refine lv_iconst (v := 0) hx hb dX11_best_21 (by decide) ?_
      refine lv_istore_n (lv' := [(3, .int (0 : Int32)), (2, .int (0 : Int32)), (0, .ref (eB E + 47)), (1, .int x1)]) hx hb dX11_best_22 rfl hl (by decide) rfl (fun ls hl => ?_)
      exact wX11_best_23 X (fun hf hR hl => wX11_best_70 X hf hR hl) FU hf hR (lv_sub hl [2, 3, 1, 0] rfl)
    · have hf := (br_if hf).1 q14
      exact wX11_best_17 X hf hR (lv_sub hl [] rfl)
theorem ctX11_best {l : Launch} {E : Ge} {b : Bool} {M : Mem} {x1 : Int32} {r : Int32} {M1 : Mem} (h : fX11_best x1 M = some (r, M1)) : CT l E yX11_best cX11_best 4 (some .int) 9 0 0 [.ref (eB E + 47), .int x1] (some (.int r)) (sh_ b) (nn b) M (sh_ b) (nn b) M1 := by
  refine met_of (by decide) (Nat.le_of_ble_eq_true rfl) ?_
  intro p e s m args below meth c X _ hR ls hl
  exact wX11_best_0 X h hR hl
def fX11_between_16 (M : Mem) : Option Int32 := some (-1 : Int32)
def fX11_between_95 (M : Mem) (k20 : Int32 → Int32 → Int32 → Option Int32) (k93 : Int32 → Option Int32) (k101 : Option Int32) (x1 : Int32) (x2 : Int32) (x3 : Int32) : Option Int32 := nx (x3 + (1 : Int32)) (fun v95 => k20 x1 x2 v95)
def fX11_between_20 (M : Mem) (k93 : Int32 → Option Int32) (k101 : Option Int32) : Nat → Int32 → Int32 → Int32 → Option Int32
  | 0, _, _, _ => none
  | n + 1, x1, x2, x3 => (if (10000 : Int32) ≤ x3 then k101 else nx (x3 / (100 : Int32)) (fun v31 => nx (irm x3 (100 : Int32)) (fun v37 => (if inb x1 20 = true then (if inb x1 20 = true then (fX11_beatsAt M v31 v37 (M.1 68 (ix x1)) (M.1 71 (ix x1))).bind (fun q60 => (if q60 = 0 then fX11_between_95 M (fX11_between_20 M k93 k101 n) k93 k101 x1 x2 x3 else (if inb x2 20 = true then (if inb x2 20 = true then (fX11_beatsAt M (M.1 68 (ix x2)) (M.1 71 (ix x2)) v31 v37).bind (fun q87 => (if q87 = 0 then fX11_between_95 M (fX11_between_20 M k93 k101 n) k93 k101 x1 x2 x3 else k93 x3)) else none) else none))) else none) else none))))
def fX11_between_93 (M : Mem) (x3 : Int32) : Option Int32 := some x3
def fX11_between_101 (M : Mem) : Option Int32 := some (-1 : Int32)
def fX11_between (M : Mem) (x1 : Int32) (x2 : Int32) : Option Int32 := (fX11_isPlace M x1).bind (fun q2 => (if q2 = 0 then fX11_between_16 M else (fX11_isPlace M x2).bind (fun q10 => (if q10 = 0 then fX11_between_16 M else fX11_between_20 M (fX11_between_93 M) (fX11_between_101 M) FU x1 x2 (0 : Int32)))))
set_option maxHeartbeats 4000000 in
set_option maxRecDepth 100000 in
theorem wX11_between_16 {r : Int32} {M : Mem} (X : CX E p s m args c meth cX11_between 6 (some .int) RX11) : ∀ {H : Heap} {locs : List Loc} {ls : Array Slot}, fX11_between_16 M = some r → Rl E (sh_ b) (nn b) s.heap M H locs → lv_has ls 6 [] → W p l e (rm 6 0 0) s m args below meth c H locs 0 0 (MQ below (qq E (some (.int r)) (sh_ b) (nn b) M) args s 0 0 (fr E)) (F0 m 16 ls []) := by
  obtain ⟨hx, hb, hr, hml, hown, hts, hK, hN, hO, hlk, hbs⟩ := id X
  intro H locs ls hf hR hl
  unfold fX11_between_16 at hf
  refine lv_iconst (v := -1) hx hb dX11_between_16 (by decide) ?_
  cases hf
  exact x_iret hx hb hr hlk hR dX11_between_17
set_option maxHeartbeats 4000000 in
set_option maxRecDepth 100000 in
theorem wX11_between_95 {r : Int32} {M : Mem} {k20 : Int32 → Int32 → Int32 → Option Int32} {k93 : Int32 → Option Int32} {k101 : Option Int32} (X : CX E p s m args c meth cX11_between 6 (some .int) RX11) (hk20 : ∀ {x1 : Int32} {x2 : Int32} {x3 : Int32} {H : Heap} {locs : List Loc} {ls : Array Slot}, k20 x1 x2 x3 = some r → Rl E (sh_ b) (nn b) s.heap M H locs → lv_has ls 6 [(0, .ref (eB E + 47)), (1, .int x1), (2, .int x2), (3, .int x3)] → W p l e (rm 6 0 0) s m args below meth c H locs 0 0 (MQ below (qq E (some (.int r)) (sh_ b) (nn b) M) args s 0 0 (fr E)) (F0 m 20 ls [])) (hk93 : ∀ {x3 : Int32} {H : Heap} {locs : List Loc} {ls : Array Slot}, k93 x3 = some r → Rl E (sh_ b) (nn b) s.heap M H locs → lv_has ls 6 [(3, .int x3)] → W p l e (rm 6 0 0) s m args below meth c H locs 0 0 (MQ below (qq E (some (.int r)) (sh_ b) (nn b) M) args s 0 0 (fr E)) (F0 m 93 ls [])) (hk101 : ∀ {H : Heap} {locs : List Loc} {ls : Array Slot}, k101 = some r → Rl E (sh_ b) (nn b) s.heap M H locs → lv_has ls 6 [] → W p l e (rm 6 0 0) s m args below meth c H locs 0 0 (MQ below (qq E (some (.int r)) (sh_ b) (nn b) M) args s 0 0 (fr E)) (F0 m 101 ls [])) : ∀ {x1 : Int32} {x2 : Int32} {x3 : Int32} {H : Heap} {locs : List Loc} {ls : Array Slot}, fX11_between_95 M k20 k93 k101 x1 x2 x3 = some r → Rl E (sh_ b) (nn b) s.heap M H locs → lv_has ls 6 [(0, .ref (eB E + 47)), (1, .int x1), (2, .int x2), (3, .int x3)] → W p l e (rm 6 0 0) s m args below meth c H locs 0 0 (MQ below (qq E (some (.int r)) (sh_ b) (nn b) M) args s 0 0 (fr E)) (F0 m 95 ls []) := by
  obtain ⟨hx, hb, hr, hml, hown, hts, hK, hN, hO, hlk, hbs⟩ := id X
  intro x1 x2 x3 H locs ls hf hR hl
  unfold fX11_between_95 at hf
  obtain ⟨v95, e95⟩ : ∃ y : Int32, y = (x3 + (1 : Int32)) := ⟨_, rfl⟩
  have hf := nx_at e95 hf
  refine lv_iinc (v := v95) (lv' := [(3, .int v95), (0, .ref (eB E + 47)), (1, .int x1), (2, .int x2)]) hx hb dX11_between_95 hl (k := 3) rfl (by rw [e95]; rfl) (by decide) rfl (fun ls hl => ?_)
  refine lv_goto (tgt := 20) hx hb dX11_between_98 (by decide) ?_
  exact hk20 hf hR (lv_sub hl [1, 2, 3, 0] rfl)
set_option maxHeartbeats 4000000 in
set_option maxRecDepth 100000 in
theorem wX11_between_20 {r : Int32} {M : Mem} {k93 : Int32 → Option Int32} {k101 : Option Int32} (X : CX E p s m args c meth cX11_between 6 (some .int) RX11) (hk93 : ∀ {x3 : Int32} {H : Heap} {locs : List Loc} {ls : Array Slot}, k93 x3 = some r → Rl E (sh_ b) (nn b) s.heap M H locs → lv_has ls 6 [(3, .int x3)] → W p l e (rm 6 0 0) s m args below meth c H locs 0 0 (MQ below (qq E (some (.int r)) (sh_ b) (nn b) M) args s 0 0 (fr E)) (F0 m 93 ls [])) (hk101 : ∀ {H : Heap} {locs : List Loc} {ls : Array Slot}, k101 = some r → Rl E (sh_ b) (nn b) s.heap M H locs → lv_has ls 6 [] → W p l e (rm 6 0 0) s m args below meth c H locs 0 0 (MQ below (qq E (some (.int r)) (sh_ b) (nn b) M) args s 0 0 (fr E)) (F0 m 101 ls [])) : ∀ (n : Nat) {x1 : Int32} {x2 : Int32} {x3 : Int32} {H : Heap} {locs : List Loc} {ls : Array Slot}, fX11_between_20 M k93 k101 n x1 x2 x3 = some r → Rl E (sh_ b) (nn b) s.heap M H locs → lv_has ls 6 [(0, .ref (eB E + 47)), (1, .int x1), (2, .int x2), (3, .int x3)] → W p l e (rm 6 0 0) s m args below meth c H locs 0 0 (MQ below (qq E (some (.int r)) (sh_ b) (nn b) M) args s 0 0 (fr E)) (F0 m 20 ls []) := by
  obtain ⟨hx, hb, hr, hml, hown, hts, hK, hN, hO, hlk, hbs⟩ := id X
  intro n
  induction n with
  | zero =>
    intro x1 x2 x3 H locs ls hf hR hl
    exact absurd (show none = some _ from hf) (fun h => by cases h)
  | succ n ih =>
    intro x1 x2 x3 H locs ls hf hR hl
    rw [fX11_between_20] at hf
    refine lv_iload_n hx hb dX11_between_20 rfl (lv_at hl 3 rfl) ?_
    refine lv_sipush (v := 10000) hx hb dX11_between_21 (by decide) ?_
    refine lv_icmp_ge (tgt := 101) hx hb dX11_between_24 (by decide) (fun q24 => ?_) (fun q24 => ?_)
    · have hf := (br_if hf).1 q24
      exact hk101 hf hR (lv_sub hl [] rfl)
    · have hf := (br_if hf).2 q24
      refine lv_iload_n hx hb dX11_between_27 rfl (lv_at hl 3 rfl) ?_
      refine lv_bipush (v := 100) hx hb dX11_between_28 (by decide) ?_
      refine lv_idiv hx hb dX11_between_30 (by decide) ?_
      refine lv_topi (fun v31 e31 => ?_)
      have hf := nx_at e31 hf
      refine lv_istore (lv' := [(4, .int v31), (0, .ref (eB E + 47)), (1, .int x1), (2, .int x2), (3, .int x3)]) hx hb dX11_between_31 hl (by decide) rfl (fun ls hl => ?_)
      refine lv_iload_n hx hb dX11_between_33 rfl (lv_at hl 4 rfl) ?_
      refine lv_bipush (v := 100) hx hb dX11_between_34 (by decide) ?_
      refine lv_irem hx hb dX11_between_36 (by decide) ?_
      refine W.eq (g2 := F0 m 37 ls [.int (irm x3 (100 : Int32))]) rfl ?_
      refine lv_topi (fun v37 e37 => ?_)
      have hf := nx_at e37 hf
      refine lv_istore (lv' := [(5, .int v37), (4, .int v31), (0, .ref (eB E + 47)), (1, .int x1), (2, .int x2), (3, .int x3)]) hx hb dX11_between_37 hl (by decide) rfl (fun ls hl => ?_)
      refine lv_aload_n hx hb dX11_between_39 rfl (lv_at hl 2 rfl) ?_
      refine lv_iload hx hb dX11_between_40 (lv_at hl 1 rfl) ?_
      refine lv_iload hx hb dX11_between_42 (lv_at hl 0 rfl) ?_
      refine lv_aload_n hx hb dX11_between_44 rfl (lv_at hl 2 rfl) ?_
      refine x_get hx hb hown hts hK hR kX11 (z_47 b) (j := 12) (by decide) fl_X11_33 (v := .ref (eB E + 67)) rfl dX11_between_45 ?_
      refine lv_iconst (v := 0) hx hb dX11_between_48 (by decide) ?_
      refine x_aald5 hx hb hK hR (z_67 b) (by decide) (r := 68) rfl dX11_between_49 ?_
      refine lv_iload_n hx hb dX11_between_50 rfl (lv_at hl 3 rfl) ?_
      obtain ⟨g51, hf⟩ := br_g hf
      refine x_iald hx hb hK hR (z_68 b) g51 dX11_between_51 ?_
      refine lv_aload_n hx hb dX11_between_52 rfl (lv_at hl 2 rfl) ?_
      refine x_get hx hb hown hts hK hR kX11 (z_47 b) (j := 13) (by decide) fl_X11_36 (v := .ref (eB E + 70)) rfl dX11_between_53 ?_
      refine lv_iconst (v := 0) hx hb dX11_between_56 (by decide) ?_
      refine x_aald5 hx hb hK hR (z_70 b) (by decide) (r := 71) rfl dX11_between_57 ?_
      refine lv_iload_n hx hb dX11_between_58 rfl (lv_at hl 3 rfl) ?_
      obtain ⟨g59, hf⟩ := br_g hf
      refine x_iald hx hb hK hR (z_71 b) g59 dX11_between_59 ?_
      obtain ⟨q60, c60, hf⟩ := br_b hf
      refine x_callV (k := 47) (As := [.int v31, .int v37, .int (M.1 68 (ix x1)), .int (M.1 71 (ix x1))]) (rest := []) (st1 := [.int q60]) X hR (ctX11_beatsAt c60) ml_X11_276 im_X11_beatsAt se_X11_beatsAt in_X11 co_X11_beatsAt yo_X11_beatsAt rfl kX11 (z_47 b) (rm_ok (by decide) (by decide)) rfl hl.1 rfl rfl (Nat.le_of_ble_eq_true rfl) dX11_between_60 ⟨Nat.zero_le _, Nat.zero_le _⟩ (fun H locs hR => ?_)
      refine lv_if_eq (tgt := 95) hx hb dX11_between_63 (by decide) (fun q63 => ?_) (fun q63 => ?_)
      · have hf := (br_if hf).1 q63
        exact wX11_between_95 X (fun hf hR hl => ih hf hR hl) (fun hf hR hl => hk93 hf hR hl) (fun hf hR hl => hk101 hf hR hl) hf hR (lv_sub hl [2, 3, 4, 5] rfl)
      · have hf := (br_if hf).2 q63
        refine lv_aload_n hx hb dX11_between_66 rfl (lv_at hl 2 rfl) ?_
        refine lv_aload_n hx hb dX11_between_67 rfl (lv_at hl 2 rfl) ?_
        refine x_get hx hb hown hts hK hR kX11 (z_47 b) (j := 12) (by decide) fl_X11_33 (v := .ref (eB E + 67)) rfl dX11_between_68 ?_
        refine lv_iconst (v := 0) hx hb dX11_between_71 (by decide) ?_
        refine x_aald5 hx hb hK hR (z_67 b) (by decide) (r := 68) rfl dX11_between_72 ?_
        refine lv_iload_n hx hb dX11_between_73 rfl (lv_at hl 4 rfl) ?_
        obtain ⟨g74, hf⟩ := br_g hf
        refine x_iald hx hb hK hR (z_68 b) g74 dX11_between_74 ?_
        refine lv_aload_n hx hb dX11_between_75 rfl (lv_at hl 2 rfl) ?_
        refine x_get hx hb hown hts hK hR kX11 (z_47 b) (j := 13) (by decide) fl_X11_36 (v := .ref (eB E + 70)) rfl dX11_between_76 ?_
        refine lv_iconst (v := 0) hx hb dX11_between_79 (by decide) ?_
        refine x_aald5 hx hb hK hR (z_70 b) (by decide) (r := 71) rfl dX11_between_80 ?_
        refine lv_iload_n hx hb dX11_between_81 rfl (lv_at hl 4 rfl) ?_
        obtain ⟨g82, hf⟩ := br_g hf
        refine x_iald hx hb hK hR (z_71 b) g82 dX11_between_82 ?_
        refine lv_iload hx hb dX11_between_83 (lv_at hl 1 rfl) ?_
        refine lv_iload hx hb dX11_between_85 (lv_at hl 0 rfl) ?_
        obtain ⟨q87, c87, hf⟩ := br_b hf
        refine x_callV (k := 47) (As := [.int (M.1 68 (ix x2)), .int (M.1 71 (ix x2)), .int v31, .int v37]) (rest := []) (st1 := [.int q87]) X hR (ctX11_beatsAt c87) ml_X11_276 im_X11_beatsAt se_X11_beatsAt in_X11 co_X11_beatsAt yo_X11_beatsAt rfl kX11 (z_47 b) (rm_ok (by decide) (by decide)) rfl hl.1 rfl rfl (Nat.le_of_ble_eq_true rfl) dX11_between_87 ⟨Nat.zero_le _, Nat.zero_le _⟩ (fun H locs hR => ?_)
        refine lv_if_eq (tgt := 95) hx hb dX11_between_90 (by decide) (fun q90 => ?_) (fun q90 => ?_)
        · have hf := (br_if hf).1 q90
          exact wX11_between_95 X (fun hf hR hl => ih hf hR hl) (fun hf hR hl => hk93 hf hR hl) (fun hf hR hl => hk101 hf hR hl) hf hR (lv_sub hl [2, 3, 4, 5] rfl)
        · have hf := (br_if hf).2 q90
          exact hk93 hf hR (lv_sub hl [5] rfl)
set_option maxHeartbeats 4000000 in
set_option maxRecDepth 100000 in
theorem wX11_between_93 {r : Int32} {M : Mem} (X : CX E p s m args c meth cX11_between 6 (some .int) RX11) : ∀ {x3 : Int32} {H : Heap} {locs : List Loc} {ls : Array Slot}, fX11_between_93 M x3 = some r → Rl E (sh_ b) (nn b) s.heap M H locs → lv_has ls 6 [(3, .int x3)] → W p l e (rm 6 0 0) s m args below meth c H locs 0 0 (MQ below (qq E (some (.int r)) (sh_ b) (nn b) M) args s 0 0 (fr E)) (F0 m 93 ls []) := by
  obtain ⟨hx, hb, hr, hml, hown, hts, hK, hN, hO, hlk, hbs⟩ := id X
  intro x3 H locs ls hf hR hl
  unfold fX11_between_93 at hf
  refine lv_iload_n hx hb dX11_between_93 rfl (lv_at hl 0 rfl) ?_
  cases hf
  exact x_iret hx hb hr hlk hR dX11_between_94
set_option maxHeartbeats 4000000 in
set_option maxRecDepth 100000 in
theorem wX11_between_101 {r : Int32} {M : Mem} (X : CX E p s m args c meth cX11_between 6 (some .int) RX11) : ∀ {H : Heap} {locs : List Loc} {ls : Array Slot}, fX11_between_101 M = some r → Rl E (sh_ b) (nn b) s.heap M H locs → lv_has ls 6 [] → W p l e (rm 6 0 0) s m args below meth c H locs 0 0 (MQ below (qq E (some (.int r)) (sh_ b) (nn b) M) args s 0 0 (fr E)) (F0 m 101 ls []) := by
  obtain ⟨hx, hb, hr, hml, hown, hts, hK, hN, hO, hlk, hbs⟩ := id X
  intro H locs ls hf hR hl
  unfold fX11_between_101 at hf
  refine lv_iconst (v := -1) hx hb dX11_between_101 (by decide) ?_
  cases hf
  exact x_iret hx hb hr hlk hR dX11_between_102
set_option maxHeartbeats 4000000 in
set_option maxRecDepth 100000 in
theorem wX11_between_0 {r : Int32} {M : Mem} (X : CX E p s m args c meth cX11_between 6 (some .int) RX11) : ∀ {x1 : Int32} {x2 : Int32} {H : Heap} {locs : List Loc} {ls : Array Slot}, fX11_between M x1 x2 = some r → Rl E (sh_ b) (nn b) s.heap M H locs → lv_has ls 6 [(0, .ref (eB E + 47)), (1, .int x1), (2, .int x2)] → W p l e (rm 6 0 0) s m args below meth c H locs 0 0 (MQ below (qq E (some (.int r)) (sh_ b) (nn b) M) args s 0 0 (fr E)) (F0 m 0 ls []) := by
  obtain ⟨hx, hb, hr, hml, hown, hts, hK, hN, hO, hlk, hbs⟩ := id X
  intro x1 x2 H locs ls hf hR hl
  unfold fX11_between at hf
  refine lv_aload_n hx hb dX11_between_0 rfl (lv_at hl 0 rfl) ?_
  refine lv_iload_n hx hb dX11_between_1 rfl (lv_at hl 1 rfl) ?_
  obtain ⟨q2, c2, hf⟩ := br_b hf
  refine x_callV (k := 47) (As := [.int x1]) (rest := []) (st1 := [.int q2]) X hR (ctX11_isPlace c2) ml_X11_248 im_X11_isPlace se_X11_isPlace in_X11 co_X11_isPlace yo_X11_isPlace rfl kX11 (z_47 b) (rm_ok (by decide) (by decide)) rfl hl.1 rfl rfl (Nat.le_of_ble_eq_true rfl) dX11_between_2 ⟨Nat.zero_le _, Nat.zero_le _⟩ (fun H locs hR => ?_)
  refine lv_if_eq (tgt := 16) hx hb dX11_between_5 (by decide) (fun q5 => ?_) (fun q5 => ?_)
  · have hf := (br_if hf).1 q5
    exact wX11_between_16 X hf hR (lv_sub hl [] rfl)
  · have hf := (br_if hf).2 q5
    refine lv_aload_n hx hb dX11_between_8 rfl (lv_at hl 0 rfl) ?_
    refine lv_iload_n hx hb dX11_between_9 rfl (lv_at hl 2 rfl) ?_
    obtain ⟨q10, c10, hf⟩ := br_b hf
    refine x_callV (k := 47) (As := [.int x2]) (rest := []) (st1 := [.int q10]) X hR (ctX11_isPlace c10) ml_X11_248 im_X11_isPlace se_X11_isPlace in_X11 co_X11_isPlace yo_X11_isPlace rfl kX11 (z_47 b) (rm_ok (by decide) (by decide)) rfl hl.1 rfl rfl (Nat.le_of_ble_eq_true rfl) dX11_between_10 ⟨Nat.zero_le _, Nat.zero_le _⟩ (fun H locs hR => ?_)
    refine lv_if_ne (tgt := 18) hx hb dX11_between_13 (by decide) (fun q13 => ?_) (fun q13 => ?_)
    · have hf := (br_if hf).2 q13
      refine lv_iconst (v := 0) hx hb dX11_between_18 (by decide) ?_
      refine lv_istore_n (lv' := [(3, .int (0 : Int32)), (0, .ref (eB E + 47)), (1, .int x1), (2, .int x2)]) hx hb dX11_between_19 rfl hl (by decide) rfl (fun ls hl => ?_)
      exact wX11_between_20 X (fun hf hR hl => wX11_between_93 X hf hR hl) (fun hf hR hl => wX11_between_101 X hf hR hl) FU hf hR (lv_sub hl [1, 2, 3, 0] rfl)
    · have hf := (br_if hf).1 q13
      exact wX11_between_16 X hf hR (lv_sub hl [] rfl)
theorem ctX11_between {l : Launch} {E : Ge} {b : Bool} {M : Mem} {x1 : Int32} {x2 : Int32} {r : Int32} (h : fX11_between M x1 x2 = some r) : CT l E yX11_between cX11_between 6 (some .int) 6 0 0 [.ref (eB E + 47), .int x1, .int x2] (some (.int r)) (sh_ b) (nn b) M (sh_ b) (nn b) M := by
  refine met_of (by decide) (Nat.le_of_ble_eq_true rfl) ?_
  intro p e s m args below meth c X _ hR ls hl
  exact wX11_between_0 X h hR hl
def fX11_chosen (M : Mem) : Option Int32 := (fX11_places M).bind (fun q3 => some (imin (8 : Int32) q3))
set_option maxHeartbeats 4000000 in
set_option maxRecDepth 100000 in
theorem wX11_chosen_0 {r : Int32} {M : Mem} (X : CX E p s m args c meth cX11_chosen 1 (some .int) RX11) : ∀ {H : Heap} {locs : List Loc} {ls : Array Slot}, fX11_chosen M = some r → Rl E (sh_ b) (nn b) s.heap M H locs → lv_has ls 1 [(0, .ref (eB E + 47))] → W p l e (rm 2 0 0) s m args below meth c H locs 0 0 (MQ below (qq E (some (.int r)) (sh_ b) (nn b) M) args s 0 0 (fr E)) (F0 m 0 ls []) := by
  obtain ⟨hx, hb, hr, hml, hown, hts, hK, hN, hO, hlk, hbs⟩ := id X
  intro H locs ls hf hR hl
  unfold fX11_chosen at hf
  refine lv_bipush (v := 8) hx hb dX11_chosen_0 (by decide) ?_
  refine lv_aload_n hx hb dX11_chosen_2 rfl (lv_at hl 0 rfl) ?_
  obtain ⟨q3, c3, hf⟩ := br_b hf
  refine x_callV (k := 47) (As := []) (rest := [.int (8 : Int32)]) (st1 := [.int q3, .int (8 : Int32)]) X hR (ctX11_places c3) ml_X11_242 im_X11_places se_X11_places in_X11 co_X11_places yo_X11_places rfl kX11 (z_47 b) (rm_ok (by decide) (by decide)) rfl hl.1 rfl rfl (Nat.le_of_ble_eq_true rfl) dX11_chosen_3 ⟨Nat.zero_le _, Nat.zero_le _⟩ (fun H locs hR => ?_)
  refine va_mmin hx hb (by rw [hml]; exact hl.1.symm) hown (hts _ ml_X11_198) (hts _ st_min) (hts _ in_J9) (hts _ co_min) (by decide) (Nat.le_of_ble_eq_true rfl) (Nat.zero_le _) (Nat.zero_le _) dX11_chosen_6 ?_
  refine W.eq (g2 := F0 m 9 ls [.int (imin (8 : Int32) q3)]) rfl ?_
  cases hf
  exact x_iret hx hb hr hlk hR dX11_chosen_9
theorem ctX11_chosen {l : Launch} {E : Ge} {b : Bool} {M : Mem} {r : Int32} (h : fX11_chosen M = some r) : CT l E yX11_chosen cX11_chosen 1 (some .int) 2 0 0 [.ref (eB E + 47)] (some (.int r)) (sh_ b) (nn b) M (sh_ b) (nn b) M := by
  refine met_of (by decide) (Nat.le_of_ble_eq_true rfl) ?_
  intro p e s m args below meth c X _ hR ls hl
  exact wX11_chosen_0 X h hR hl
def fX11_pairs_37 (M : Mem) (k14 : Int32 → Int32 → Int32 → Option Int32) (k45 : Int32 → Int32 → Option Int32) (x2 : Int32) (x3 : Int32) (s0 : Int32) (s1 : Int32) : Option Int32 := nx (s0 + s1) (fun v38 => nx (x3 + (1 : Int32)) (fun v39 => k14 v38 x2 v39))
def fX11_pairs_14 (M : Mem) (k45 : Int32 → Int32 → Option Int32) : Nat → Int32 → Int32 → Int32 → Option Int32
  | 0, _, _, _ => none
  | n + 1, x1, x2, x3 => (fX11_places M).bind (fun q16 => (if q16 ≤ x3 then k45 x1 x2 else (fX11_beatsOf M x2 x3).bind (fun q26 => (if q26 = 0 then fX11_pairs_37 M (fX11_pairs_14 M k45 n) k45 x2 x3 x1 (0 : Int32) else fX11_pairs_37 M (fX11_pairs_14 M k45 n) k45 x2 x3 x1 (1 : Int32)))))
def fX11_pairs_45 (M : Mem) (k4 : Int32 → Int32 → Option Int32) (k51 : Int32 → Option Int32) (x1 : Int32) (x2 : Int32) : Option Int32 := nx (x2 + (1 : Int32)) (fun v45 => k4 x1 v45)
def fX11_pairs_4 (M : Mem) (k51 : Int32 → Option Int32) : Nat → Int32 → Int32 → Option Int32
  | 0, _, _ => none
  | n + 1, x1, x2 => (fX11_places M).bind (fun q6 => (if q6 ≤ x2 then k51 x1 else fX11_pairs_14 M (fX11_pairs_45 M (fX11_pairs_4 M k51 n) k51) FU x1 x2 (0 : Int32)))
def fX11_pairs_51 (M : Mem) (x1 : Int32) : Option Int32 := some x1
def fX11_pairs (M : Mem) : Option Int32 := fX11_pairs_4 M (fX11_pairs_51 M) FU (0 : Int32) (0 : Int32)
set_option maxHeartbeats 4000000 in
set_option maxRecDepth 100000 in
theorem wX11_pairs_37 {r : Int32} {M : Mem} {k14 : Int32 → Int32 → Int32 → Option Int32} {k45 : Int32 → Int32 → Option Int32} (X : CX E p s m args c meth cX11_pairs 4 (some .int) RX11) (hk14 : ∀ {x1 : Int32} {x2 : Int32} {x3 : Int32} {H : Heap} {locs : List Loc} {ls : Array Slot}, k14 x1 x2 x3 = some r → Rl E (sh_ b) (nn b) s.heap M H locs → lv_has ls 4 [(0, .ref (eB E + 47)), (1, .int x1), (2, .int x2), (3, .int x3)] → W p l e (rm 7 0 0) s m args below meth c H locs 0 0 (MQ below (qq E (some (.int r)) (sh_ b) (nn b) M) args s 0 0 (fr E)) (F0 m 14 ls [])) (hk45 : ∀ {x1 : Int32} {x2 : Int32} {H : Heap} {locs : List Loc} {ls : Array Slot}, k45 x1 x2 = some r → Rl E (sh_ b) (nn b) s.heap M H locs → lv_has ls 4 [(0, .ref (eB E + 47)), (1, .int x1), (2, .int x2)] → W p l e (rm 7 0 0) s m args below meth c H locs 0 0 (MQ below (qq E (some (.int r)) (sh_ b) (nn b) M) args s 0 0 (fr E)) (F0 m 45 ls [])) : ∀ {x2 : Int32} {x3 : Int32} {s0 : Int32} {s1 : Int32} {H : Heap} {locs : List Loc} {ls : Array Slot}, fX11_pairs_37 M k14 k45 x2 x3 s0 s1 = some r → Rl E (sh_ b) (nn b) s.heap M H locs → lv_has ls 4 [(0, .ref (eB E + 47)), (2, .int x2), (3, .int x3)] → W p l e (rm 7 0 0) s m args below meth c H locs 0 0 (MQ below (qq E (some (.int r)) (sh_ b) (nn b) M) args s 0 0 (fr E)) (F0 m 37 ls [.int s1, .int s0]) := by
  obtain ⟨hx, hb, hr, hml, hown, hts, hK, hN, hO, hlk, hbs⟩ := id X
  intro x2 x3 s0 s1 H locs ls hf hR hl
  unfold fX11_pairs_37 at hf
  refine lv_iadd hx hb dX11_pairs_37 ?_
  refine lv_topi (fun v38 e38 => ?_)
  have hf := nx_at e38 hf
  refine lv_istore_n (lv' := [(1, .int v38), (0, .ref (eB E + 47)), (2, .int x2), (3, .int x3)]) hx hb dX11_pairs_38 rfl hl (by decide) rfl (fun ls hl => ?_)
  obtain ⟨v39, e39⟩ : ∃ y : Int32, y = (x3 + (1 : Int32)) := ⟨_, rfl⟩
  have hf := nx_at e39 hf
  refine lv_iinc (v := v39) (lv' := [(3, .int v39), (1, .int v38), (0, .ref (eB E + 47)), (2, .int x2)]) hx hb dX11_pairs_39 hl (k := 3) rfl (by rw [e39]; rfl) (by decide) rfl (fun ls hl => ?_)
  refine lv_goto (tgt := 14) hx hb dX11_pairs_42 (by decide) ?_
  exact hk14 hf hR (lv_sub hl [2, 1, 3, 0] rfl)
set_option maxHeartbeats 4000000 in
set_option maxRecDepth 100000 in
theorem wX11_pairs_14 {r : Int32} {M : Mem} {k45 : Int32 → Int32 → Option Int32} (X : CX E p s m args c meth cX11_pairs 4 (some .int) RX11) (hk45 : ∀ {x1 : Int32} {x2 : Int32} {H : Heap} {locs : List Loc} {ls : Array Slot}, k45 x1 x2 = some r → Rl E (sh_ b) (nn b) s.heap M H locs → lv_has ls 4 [(0, .ref (eB E + 47)), (1, .int x1), (2, .int x2)] → W p l e (rm 7 0 0) s m args below meth c H locs 0 0 (MQ below (qq E (some (.int r)) (sh_ b) (nn b) M) args s 0 0 (fr E)) (F0 m 45 ls [])) : ∀ (n : Nat) {x1 : Int32} {x2 : Int32} {x3 : Int32} {H : Heap} {locs : List Loc} {ls : Array Slot}, fX11_pairs_14 M k45 n x1 x2 x3 = some r → Rl E (sh_ b) (nn b) s.heap M H locs → lv_has ls 4 [(0, .ref (eB E + 47)), (1, .int x1), (2, .int x2), (3, .int x3)] → W p l e (rm 7 0 0) s m args below meth c H locs 0 0 (MQ below (qq E (some (.int r)) (sh_ b) (nn b) M) args s 0 0 (fr E)) (F0 m 14 ls []) := by
  obtain ⟨hx, hb, hr, hml, hown, hts, hK, hN, hO, hlk, hbs⟩ := id X
  intro n
  induction n with
  | zero =>
    intro x1 x2 x3 H locs ls hf hR hl
    exact absurd (show none = some _ from hf) (fun h => by cases h)
  | succ n ih =>
    intro x1 x2 x3 H locs ls hf hR hl
    rw [fX11_pairs_14] at hf
    refine lv_iload_n hx hb dX11_pairs_14 rfl (lv_at hl 3 rfl) ?_
    refine lv_aload_n hx hb dX11_pairs_15 rfl (lv_at hl 0 rfl) ?_
    obtain ⟨q16, c16, hf⟩ := br_b hf
    refine x_callV (k := 47) (As := []) (rest := [.int x3]) (st1 := [.int q16, .int x3]) X hR (ctX11_places c16) ml_X11_242 im_X11_places se_X11_places in_X11 co_X11_places yo_X11_places rfl kX11 (z_47 b) (rm_ok (by decide) (by decide)) rfl hl.1 rfl rfl (Nat.le_of_ble_eq_true rfl) dX11_pairs_16 ⟨Nat.zero_le _, Nat.zero_le _⟩ (fun H locs hR => ?_)
    refine lv_icmp_ge (tgt := 45) hx hb dX11_pairs_19 (by decide) (fun q19 => ?_) (fun q19 => ?_)
    · have hf := (br_if hf).1 q19
      exact hk45 hf hR (lv_sub hl [0, 1, 2] rfl)
    · have hf := (br_if hf).2 q19
      refine lv_iload_n hx hb dX11_pairs_22 rfl (lv_at hl 1 rfl) ?_
      refine lv_aload_n hx hb dX11_pairs_23 rfl (lv_at hl 0 rfl) ?_
      refine lv_iload_n hx hb dX11_pairs_24 rfl (lv_at hl 2 rfl) ?_
      refine lv_iload_n hx hb dX11_pairs_25 rfl (lv_at hl 3 rfl) ?_
      obtain ⟨q26, c26, hf⟩ := br_b hf
      refine x_callV (k := 47) (As := [.int x2, .int x3]) (rest := [.int x1]) (st1 := [.int q26, .int x1]) X hR (ctX11_beatsOf c26) ml_X11_283 im_X11_beatsOf se_X11_beatsOf in_X11 co_X11_beatsOf yo_X11_beatsOf rfl kX11 (z_47 b) (rm_ok (by decide) (by decide)) rfl hl.1 rfl rfl (Nat.le_of_ble_eq_true rfl) dX11_pairs_26 ⟨Nat.zero_le _, Nat.zero_le _⟩ (fun H locs hR => ?_)
      refine lv_if_eq (tgt := 36) hx hb dX11_pairs_29 (by decide) (fun q29 => ?_) (fun q29 => ?_)
      · have hf := (br_if hf).1 q29
        refine lv_iconst (v := 0) hx hb dX11_pairs_36 (by decide) ?_
        exact wX11_pairs_37 X (fun hf hR hl => ih hf hR hl) (fun hf hR hl => hk45 hf hR hl) hf hR (lv_sub hl [0, 2, 3] rfl)
      · have hf := (br_if hf).2 q29
        refine lv_iconst (v := 1) hx hb dX11_pairs_32 (by decide) ?_
        refine lv_goto (tgt := 37) hx hb dX11_pairs_33 (by decide) ?_
        exact wX11_pairs_37 X (fun hf hR hl => ih hf hR hl) (fun hf hR hl => hk45 hf hR hl) hf hR (lv_sub hl [0, 2, 3] rfl)
set_option maxHeartbeats 4000000 in
set_option maxRecDepth 100000 in
theorem wX11_pairs_45 {r : Int32} {M : Mem} {k4 : Int32 → Int32 → Option Int32} {k51 : Int32 → Option Int32} (X : CX E p s m args c meth cX11_pairs 4 (some .int) RX11) (hk4 : ∀ {x1 : Int32} {x2 : Int32} {H : Heap} {locs : List Loc} {ls : Array Slot}, k4 x1 x2 = some r → Rl E (sh_ b) (nn b) s.heap M H locs → lv_has ls 4 [(0, .ref (eB E + 47)), (1, .int x1), (2, .int x2)] → W p l e (rm 7 0 0) s m args below meth c H locs 0 0 (MQ below (qq E (some (.int r)) (sh_ b) (nn b) M) args s 0 0 (fr E)) (F0 m 4 ls [])) (hk51 : ∀ {x1 : Int32} {H : Heap} {locs : List Loc} {ls : Array Slot}, k51 x1 = some r → Rl E (sh_ b) (nn b) s.heap M H locs → lv_has ls 4 [(1, .int x1)] → W p l e (rm 7 0 0) s m args below meth c H locs 0 0 (MQ below (qq E (some (.int r)) (sh_ b) (nn b) M) args s 0 0 (fr E)) (F0 m 51 ls [])) : ∀ {x1 : Int32} {x2 : Int32} {H : Heap} {locs : List Loc} {ls : Array Slot}, fX11_pairs_45 M k4 k51 x1 x2 = some r → Rl E (sh_ b) (nn b) s.heap M H locs → lv_has ls 4 [(0, .ref (eB E + 47)), (1, .int x1), (2, .int x2)] → W p l e (rm 7 0 0) s m args below meth c H locs 0 0 (MQ below (qq E (some (.int r)) (sh_ b) (nn b) M) args s 0 0 (fr E)) (F0 m 45 ls []) := by
  obtain ⟨hx, hb, hr, hml, hown, hts, hK, hN, hO, hlk, hbs⟩ := id X
  intro x1 x2 H locs ls hf hR hl
  unfold fX11_pairs_45 at hf
  obtain ⟨v45, e45⟩ : ∃ y : Int32, y = (x2 + (1 : Int32)) := ⟨_, rfl⟩
  have hf := nx_at e45 hf
  refine lv_iinc (v := v45) (lv' := [(2, .int v45), (0, .ref (eB E + 47)), (1, .int x1)]) hx hb dX11_pairs_45 hl (k := 2) rfl (by rw [e45]; rfl) (by decide) rfl (fun ls hl => ?_)
  refine lv_goto (tgt := 4) hx hb dX11_pairs_48 (by decide) ?_
  exact hk4 hf hR (lv_sub hl [1, 2, 0] rfl)
set_option maxHeartbeats 4000000 in
set_option maxRecDepth 100000 in
theorem wX11_pairs_4 {r : Int32} {M : Mem} {k51 : Int32 → Option Int32} (X : CX E p s m args c meth cX11_pairs 4 (some .int) RX11) (hk51 : ∀ {x1 : Int32} {H : Heap} {locs : List Loc} {ls : Array Slot}, k51 x1 = some r → Rl E (sh_ b) (nn b) s.heap M H locs → lv_has ls 4 [(1, .int x1)] → W p l e (rm 7 0 0) s m args below meth c H locs 0 0 (MQ below (qq E (some (.int r)) (sh_ b) (nn b) M) args s 0 0 (fr E)) (F0 m 51 ls [])) : ∀ (n : Nat) {x1 : Int32} {x2 : Int32} {H : Heap} {locs : List Loc} {ls : Array Slot}, fX11_pairs_4 M k51 n x1 x2 = some r → Rl E (sh_ b) (nn b) s.heap M H locs → lv_has ls 4 [(0, .ref (eB E + 47)), (1, .int x1), (2, .int x2)] → W p l e (rm 7 0 0) s m args below meth c H locs 0 0 (MQ below (qq E (some (.int r)) (sh_ b) (nn b) M) args s 0 0 (fr E)) (F0 m 4 ls []) := by
  obtain ⟨hx, hb, hr, hml, hown, hts, hK, hN, hO, hlk, hbs⟩ := id X
  intro n
  induction n with
  | zero =>
    intro x1 x2 H locs ls hf hR hl
    exact absurd (show none = some _ from hf) (fun h => by cases h)
  | succ n ih =>
    intro x1 x2 H locs ls hf hR hl
    rw [fX11_pairs_4] at hf
    refine lv_iload_n hx hb dX11_pairs_4 rfl (lv_at hl 2 rfl) ?_
    refine lv_aload_n hx hb dX11_pairs_5 rfl (lv_at hl 0 rfl) ?_
    obtain ⟨q6, c6, hf⟩ := br_b hf
    refine x_callV (k := 47) (As := []) (rest := [.int x2]) (st1 := [.int q6, .int x2]) X hR (ctX11_places c6) ml_X11_242 im_X11_places se_X11_places in_X11 co_X11_places yo_X11_places rfl kX11 (z_47 b) (rm_ok (by decide) (by decide)) rfl hl.1 rfl rfl (Nat.le_of_ble_eq_true rfl) dX11_pairs_6 ⟨Nat.zero_le _, Nat.zero_le _⟩ (fun H locs hR => ?_)
    refine lv_icmp_ge (tgt := 51) hx hb dX11_pairs_9 (by decide) (fun q9 => ?_) (fun q9 => ?_)
    · have hf := (br_if hf).1 q9
      exact hk51 hf hR (lv_sub hl [1] rfl)
    · have hf := (br_if hf).2 q9
      refine lv_iconst (v := 0) hx hb dX11_pairs_12 (by decide) ?_
      refine lv_istore_n (lv' := [(3, .int (0 : Int32)), (0, .ref (eB E + 47)), (1, .int x1), (2, .int x2)]) hx hb dX11_pairs_13 rfl hl (by decide) rfl (fun ls hl => ?_)
      exact wX11_pairs_14 X (fun hf hR hl => wX11_pairs_45 X (fun hf hR hl => ih hf hR hl) (fun hf hR hl => hk51 hf hR hl) hf hR hl) FU hf hR (lv_sub hl [1, 2, 3, 0] rfl)
set_option maxHeartbeats 4000000 in
set_option maxRecDepth 100000 in
theorem wX11_pairs_51 {r : Int32} {M : Mem} (X : CX E p s m args c meth cX11_pairs 4 (some .int) RX11) : ∀ {x1 : Int32} {H : Heap} {locs : List Loc} {ls : Array Slot}, fX11_pairs_51 M x1 = some r → Rl E (sh_ b) (nn b) s.heap M H locs → lv_has ls 4 [(1, .int x1)] → W p l e (rm 7 0 0) s m args below meth c H locs 0 0 (MQ below (qq E (some (.int r)) (sh_ b) (nn b) M) args s 0 0 (fr E)) (F0 m 51 ls []) := by
  obtain ⟨hx, hb, hr, hml, hown, hts, hK, hN, hO, hlk, hbs⟩ := id X
  intro x1 H locs ls hf hR hl
  unfold fX11_pairs_51 at hf
  refine lv_iload_n hx hb dX11_pairs_51 rfl (lv_at hl 0 rfl) ?_
  cases hf
  exact x_iret hx hb hr hlk hR dX11_pairs_52
set_option maxHeartbeats 4000000 in
set_option maxRecDepth 100000 in
theorem wX11_pairs_0 {r : Int32} {M : Mem} (X : CX E p s m args c meth cX11_pairs 4 (some .int) RX11) : ∀ {H : Heap} {locs : List Loc} {ls : Array Slot}, fX11_pairs M = some r → Rl E (sh_ b) (nn b) s.heap M H locs → lv_has ls 4 [(0, .ref (eB E + 47))] → W p l e (rm 7 0 0) s m args below meth c H locs 0 0 (MQ below (qq E (some (.int r)) (sh_ b) (nn b) M) args s 0 0 (fr E)) (F0 m 0 ls []) := by
  obtain ⟨hx, hb, hr, hml, hown, hts, hK, hN, hO, hlk, hbs⟩ := id X
  intro H locs ls hf hR hl
  unfold fX11_pairs at hf
  refine lv_iconst (v := 0) hx hb dX11_pairs_0 (by decide) ?_
  refine lv_istore_n (lv' := [(1, .int (0 : Int32)), (0, .ref (eB E + 47))]) hx hb dX11_pairs_1 rfl hl (by decide) rfl (fun ls hl => ?_)
  refine lv_iconst (v := 0) hx hb dX11_pairs_2 (by decide) ?_
  refine lv_istore_n (lv' := [(2, .int (0 : Int32)), (1, .int (0 : Int32)), (0, .ref (eB E + 47))]) hx hb dX11_pairs_3 rfl hl (by decide) rfl (fun ls hl => ?_)
  exact wX11_pairs_4 X (fun hf hR hl => wX11_pairs_51 X hf hR hl) FU hf hR (lv_sub hl [2, 1, 0] rfl)
theorem ctX11_pairs {l : Launch} {E : Ge} {b : Bool} {M : Mem} {r : Int32} (h : fX11_pairs M = some r) : CT l E yX11_pairs cX11_pairs 4 (some .int) 7 0 0 [.ref (eB E + 47)] (some (.int r)) (sh_ b) (nn b) M (sh_ b) (nn b) M := by
  refine met_of (by decide) (Nat.le_of_ble_eq_true rfl) ?_
  intro p e s m args below meth c X _ hR ls hl
  exact wX11_pairs_0 X h hR hl
def fX11_count (M : Mem) (x1 : Int32) : Option Int32 := (if x1 = (0 : Int32) then (fX11_voters M).bind (fun q41 => some q41) else (if x1 = (1 : Int32) then (fX11_places M).bind (fun q46 => some q46) else (if x1 = (2 : Int32) then (fX11_total M).bind (fun q51 => some q51) else (if x1 = (3 : Int32) then some (M.1 47 48) else (if x1 = (4 : Int32) then some (M.1 47 1) else (if x1 = (5 : Int32) then (fX11_pairs M).bind (fun q66 => some q66) else some (-1 : Int32)))))))
set_option maxHeartbeats 4000000 in
set_option maxRecDepth 100000 in
theorem wX11_count_0 {r : Int32} {M : Mem} (X : CX E p s m args c meth cX11_count 2 (some .int) RX11) : ∀ {x1 : Int32} {H : Heap} {locs : List Loc} {ls : Array Slot}, fX11_count M x1 = some r → Rl E (sh_ b) (nn b) s.heap M H locs → lv_has ls 2 [(0, .ref (eB E + 47)), (1, .int x1)] → W p l e (rm 8 0 0) s m args below meth c H locs 0 0 (MQ below (qq E (some (.int r)) (sh_ b) (nn b) M) args s 0 0 (fr E)) (F0 m 0 ls []) := by
  obtain ⟨hx, hb, hr, hml, hown, hts, hK, hN, hO, hlk, hbs⟩ := id X
  intro x1 H locs ls hf hR hl
  unfold fX11_count at hf
  refine lv_iload_n hx hb dX11_count_0 rfl (lv_at hl 1 rfl) ?_
  by_cases q1_0 : x1 = (0 : Int32)
  · have hf := (br_if hf).1 q1_0
    refine x_tsw (v := 0) (tgt := 40) hx hb dX11_count_1 q1_0 (by decide) (by decide) (off := 39) (by decide) (by decide) ?_
    refine lv_aload_n hx hb dX11_count_40 rfl (lv_at hl 0 rfl) ?_
    obtain ⟨q41, c41, hf⟩ := br_b hf
    refine x_callV (k := 47) (As := []) (rest := []) (st1 := [.int q41]) X hR (ctX11_voters c41) ml_X11_237 im_X11_voters se_X11_voters in_X11 co_X11_voters yo_X11_voters rfl kX11 (z_47 b) (rm_ok (by decide) (by decide)) rfl hl.1 rfl rfl (Nat.le_of_ble_eq_true rfl) dX11_count_41 ⟨Nat.zero_le _, Nat.zero_le _⟩ (fun H locs hR => ?_)
    cases hf
    exact x_iret hx hb hr hlk hR dX11_count_44
  · have hf := (br_if hf).2 q1_0
    by_cases q1_1 : x1 = (1 : Int32)
    · have hf := (br_if hf).1 q1_1
      refine x_tsw (v := 1) (tgt := 45) hx hb dX11_count_1 q1_1 (by decide) (by decide) (off := 44) (by decide) (by decide) ?_
      refine lv_aload_n hx hb dX11_count_45 rfl (lv_at hl 0 rfl) ?_
      obtain ⟨q46, c46, hf⟩ := br_b hf
      refine x_callV (k := 47) (As := []) (rest := []) (st1 := [.int q46]) X hR (ctX11_places c46) ml_X11_242 im_X11_places se_X11_places in_X11 co_X11_places yo_X11_places rfl kX11 (z_47 b) (rm_ok (by decide) (by decide)) rfl hl.1 rfl rfl (Nat.le_of_ble_eq_true rfl) dX11_count_46 ⟨Nat.zero_le _, Nat.zero_le _⟩ (fun H locs hR => ?_)
      cases hf
      exact x_iret hx hb hr hlk hR dX11_count_49
    · have hf := (br_if hf).2 q1_1
      by_cases q1_2 : x1 = (2 : Int32)
      · have hf := (br_if hf).1 q1_2
        refine x_tsw (v := 2) (tgt := 50) hx hb dX11_count_1 q1_2 (by decide) (by decide) (off := 49) (by decide) (by decide) ?_
        refine lv_aload_n hx hb dX11_count_50 rfl (lv_at hl 0 rfl) ?_
        obtain ⟨q51, c51, hf⟩ := br_b hf
        refine x_callV (k := 47) (As := []) (rest := []) (st1 := [.int q51]) X hR (ctX11_total c51) ml_X11_266 im_X11_total se_X11_total in_X11 co_X11_total yo_X11_total rfl kX11 (z_47 b) (rm_ok (by decide) (by decide)) rfl hl.1 rfl rfl (Nat.le_of_ble_eq_true rfl) dX11_count_51 ⟨Nat.zero_le _, Nat.zero_le _⟩ (fun H locs hR => ?_)
        cases hf
        exact x_iret hx hb hr hlk hR dX11_count_54
      · have hf := (br_if hf).2 q1_2
        by_cases q1_3 : x1 = (3 : Int32)
        · have hf := (br_if hf).1 q1_3
          refine x_tsw (v := 3) (tgt := 55) hx hb dX11_count_1 q1_3 (by decide) (by decide) (off := 54) (by decide) (by decide) ?_
          refine lv_aload_n hx hb dX11_count_55 rfl (lv_at hl 0 rfl) ?_
          refine x_get hx hb hown hts hK hR kX11 (z_47 b) (j := 48) (by decide) fl_X11_231 (v := .int (M.1 47 48)) rfl dX11_count_56 ?_
          cases hf
          exact x_iret hx hb hr hlk hR dX11_count_59
        · have hf := (br_if hf).2 q1_3
          by_cases q1_4 : x1 = (4 : Int32)
          · have hf := (br_if hf).1 q1_4
            refine x_tsw (v := 4) (tgt := 60) hx hb dX11_count_1 q1_4 (by decide) (by decide) (off := 59) (by decide) (by decide) ?_
            refine lv_aload_n hx hb dX11_count_60 rfl (lv_at hl 0 rfl) ?_
            refine x_get hx hb hown hts hK hR kX11 (z_47 b) (j := 1) (by decide) fl_X11_114 (v := .int (M.1 47 1)) rfl dX11_count_61 ?_
            cases hf
            exact x_iret hx hb hr hlk hR dX11_count_64
          · have hf := (br_if hf).2 q1_4
            by_cases q1_5 : x1 = (5 : Int32)
            · have hf := (br_if hf).1 q1_5
              refine x_tsw (v := 5) (tgt := 65) hx hb dX11_count_1 q1_5 (by decide) (by decide) (off := 64) (by decide) (by decide) ?_
              refine lv_aload_n hx hb dX11_count_65 rfl (lv_at hl 0 rfl) ?_
              obtain ⟨q66, c66, hf⟩ := br_b hf
              refine x_callV (k := 47) (As := []) (rest := []) (st1 := [.int q66]) X hR (ctX11_pairs c66) ml_X11_427 im_X11_pairs se_X11_pairs in_X11 co_X11_pairs yo_X11_pairs rfl kX11 (z_47 b) (rm_ok (by decide) (by decide)) rfl hl.1 rfl rfl (Nat.le_of_ble_eq_true rfl) dX11_count_66 ⟨Nat.zero_le _, Nat.zero_le _⟩ (fun H locs hR => ?_)
              cases hf
              exact x_iret hx hb hr hlk hR dX11_count_69
            · have hf := (br_if hf).2 q1_5
              refine lv_tableOut (tgt := 70) hx hb dX11_count_1 (by have a0 := lv_neT q1_0 (show (0 : Int32).toInt = 0 from rfl); have a1 := lv_neT q1_1 (show (1 : Int32).toInt = 1 from rfl); have a2 := lv_neT q1_2 (show (2 : Int32).toInt = 2 from rfl); have a3 := lv_neT q1_3 (show (3 : Int32).toInt = 3 from rfl); have a4 := lv_neT q1_4 (show (4 : Int32).toInt = 4 from rfl); have a5 := lv_neT q1_5 (show (5 : Int32).toInt = 5 from rfl); omega) (by decide) ?_
              refine lv_iconst (v := -1) hx hb dX11_count_70 (by decide) ?_
              cases hf
              exact x_iret hx hb hr hlk hR dX11_count_71
theorem ctX11_count {l : Launch} {E : Ge} {b : Bool} {M : Mem} {x1 : Int32} {r : Int32} (h : fX11_count M x1 = some r) : CT l E yX11_count cX11_count 2 (some .int) 8 0 0 [.ref (eB E + 47), .int x1] (some (.int r)) (sh_ b) (nn b) M (sh_ b) (nn b) M := by
  refine met_of (by decide) (Nat.le_of_ble_eq_true rfl) ?_
  intro p e s m args below meth c X _ hR ls hl
  exact wX11_count_0 X h hR hl
def fX11_doubt_20 (M : Mem) : Option (Int32 × Mem) := some ((-1 : Int32), M)
def fX11_doubt_105 (k27 : Int32 → Int32 → Int32 → Int32 → Mem → Option (Int32 × Mem)) (k73 : Mem → Option (Int32 × Mem)) (k111 : Int32 → Mem → Option (Int32 × Mem)) (x1 : Int32) (x2 : Int32) (x3 : Int32) (x4 : Int32) (M : Mem) : Option (Int32 × Mem) := nx (x4 + (1 : Int32)) (fun v105 => k27 x1 x2 x3 v105 M)
def fX11_doubt_104 (k27 : Int32 → Int32 → Int32 → Int32 → Mem → Option (Int32 × Mem)) (k73 : Mem → Option (Int32 × Mem)) (k111 : Int32 → Mem → Option (Int32 × Mem)) (x1 : Int32) (x2 : Int32) (x4 : Int32) (s0 : Int32) (M : Mem) : Option (Int32 × Mem) := fX11_doubt_105 k27 k73 k111 x1 x2 s0 x4 M
def fX11_doubt_99 (k27 : Int32 → Int32 → Int32 → Int32 → Mem → Option (Int32 × Mem)) (k73 : Mem → Option (Int32 × Mem)) (k111 : Int32 → Mem → Option (Int32 × Mem)) (x1 : Int32) (x2 : Int32) (x4 : Int32) (M : Mem) : Option (Int32 × Mem) := fX11_doubt_104 k27 k73 k111 x1 x2 x4 (1 : Int32) M
def fX11_doubt_27 (k73 : Mem → Option (Int32 × Mem)) (k111 : Int32 → Mem → Option (Int32 × Mem)) : Nat → Int32 → Int32 → Int32 → Int32 → Mem → Option (Int32 × Mem)
  | 0, _, _, _, _, _ => none
  | n + 1, x1, x2, x3, x4, M => (fX11_places M).bind (fun q30 => (if q30 ≤ x4 then k111 x3 M else (if x4 = x1 then fX11_doubt_105 (fX11_doubt_27 k73 k111 n) k73 k111 x1 x2 x3 x4 M else (fX11_asks x1 x4 x2 M).bind (fun q50 => (fX11_isWon q50 (q50.1 47 46) ((q50.1 47 45) + (q50.1 47 44))).bind (fun q67 => (if q67 = 0 then (if x3 = 0 then (fX11_isWon q50 ((q50.1 47 46) + (q50.1 47 44)) (q50.1 47 45)).bind (fun q93 => (if q93 = 0 then fX11_doubt_104 (fX11_doubt_27 k73 k111 n) k73 k111 x1 x2 x4 (0 : Int32) q50 else fX11_doubt_99 (fX11_doubt_27 k73 k111 n) k73 k111 x1 x2 x4 q50)) else fX11_doubt_99 (fX11_doubt_27 k73 k111 n) k73 k111 x1 x2 x4 q50) else k73 q50))))))
def fX11_doubt_73 (M : Mem) : Option (Int32 × Mem) := some ((0 : Int32), M)
def fX11_doubt_120 (s0 : Int32) (M : Mem) : Option (Int32 × Mem) := some (s0, M)
def fX11_doubt_111 (x3 : Int32) (M : Mem) : Option (Int32 × Mem) := (if x3 = 0 then fX11_doubt_120 (2 : Int32) M else fX11_doubt_120 (1 : Int32) M)
def fX11_doubt (x1 : Int32) (x2 : Int32) (M : Mem) : Option (Int32 × Mem) := (fX11_isPlace M x1).bind (fun q2 => (if q2 = 0 then fX11_doubt_20 M else (fX11_in M (x2.toInt64) (0 : Int64) (5 : Int64)).bind (fun q14 => (if q14 = 0 then fX11_doubt_20 M else fX11_doubt_27 fX11_doubt_73 fX11_doubt_111 FU x1 x2 (0 : Int32) (0 : Int32) M))))
set_option maxHeartbeats 4000000 in
set_option maxRecDepth 100000 in
theorem wX11_doubt_20 {r : Int32} {M1 : Mem} (X : CX E p s m args c meth cX11_doubt 5 (some .int) RX11) : ∀ {M : Mem} {H : Heap} {locs : List Loc} {ls : Array Slot}, fX11_doubt_20 M = some (r, M1) → Rl E (sh_ b) (nn b) s.heap M H locs → lv_has ls 5 [] → W p l e (rm 5 0 0) s m args below meth c H locs 0 0 (MQ below (qq E (some (.int r)) (sh_ b) (nn b) M1) args s 0 0 (fr E)) (F0 m 20 ls []) := by
  obtain ⟨hx, hb, hr, hml, hown, hts, hK, hN, hO, hlk, hbs⟩ := id X
  intro M H locs ls hf hR hl
  unfold fX11_doubt_20 at hf
  refine lv_iconst (v := -1) hx hb dX11_doubt_20 (by decide) ?_
  cases hf
  exact x_iret hx hb hr hlk hR dX11_doubt_21
set_option maxHeartbeats 4000000 in
set_option maxRecDepth 100000 in
theorem wX11_doubt_105 {r : Int32} {M1 : Mem} {k27 : Int32 → Int32 → Int32 → Int32 → Mem → Option (Int32 × Mem)} {k73 : Mem → Option (Int32 × Mem)} {k111 : Int32 → Mem → Option (Int32 × Mem)} (X : CX E p s m args c meth cX11_doubt 5 (some .int) RX11) (hk27 : ∀ {x1 : Int32} {x2 : Int32} {x3 : Int32} {x4 : Int32} {M : Mem} {H : Heap} {locs : List Loc} {ls : Array Slot}, k27 x1 x2 x3 x4 M = some (r, M1) → Rl E (sh_ b) (nn b) s.heap M H locs → lv_has ls 5 [(0, .ref (eB E + 47)), (1, .int x1), (2, .int x2), (3, .int x3), (4, .int x4)] → W p l e (rm 5 0 0) s m args below meth c H locs 0 0 (MQ below (qq E (some (.int r)) (sh_ b) (nn b) M1) args s 0 0 (fr E)) (F0 m 27 ls [])) (hk73 : ∀ {M : Mem} {H : Heap} {locs : List Loc} {ls : Array Slot}, k73 M = some (r, M1) → Rl E (sh_ b) (nn b) s.heap M H locs → lv_has ls 5 [] → W p l e (rm 5 0 0) s m args below meth c H locs 0 0 (MQ below (qq E (some (.int r)) (sh_ b) (nn b) M1) args s 0 0 (fr E)) (F0 m 73 ls [])) (hk111 : ∀ {x3 : Int32} {M : Mem} {H : Heap} {locs : List Loc} {ls : Array Slot}, k111 x3 M = some (r, M1) → Rl E (sh_ b) (nn b) s.heap M H locs → lv_has ls 5 [(3, .int x3)] → W p l e (rm 5 0 0) s m args below meth c H locs 0 0 (MQ below (qq E (some (.int r)) (sh_ b) (nn b) M1) args s 0 0 (fr E)) (F0 m 111 ls [])) : ∀ {x1 : Int32} {x2 : Int32} {x3 : Int32} {x4 : Int32} {M : Mem} {H : Heap} {locs : List Loc} {ls : Array Slot}, fX11_doubt_105 k27 k73 k111 x1 x2 x3 x4 M = some (r, M1) → Rl E (sh_ b) (nn b) s.heap M H locs → lv_has ls 5 [(0, .ref (eB E + 47)), (1, .int x1), (2, .int x2), (3, .int x3), (4, .int x4)] → W p l e (rm 5 0 0) s m args below meth c H locs 0 0 (MQ below (qq E (some (.int r)) (sh_ b) (nn b) M1) args s 0 0 (fr E)) (F0 m 105 ls []) := by
  obtain ⟨hx, hb, hr, hml, hown, hts, hK, hN, hO, hlk, hbs⟩ := id X
  intro x1 x2 x3 x4 M H locs ls hf hR hl
  unfold fX11_doubt_105 at hf
  obtain ⟨v105, e105⟩ : ∃ y : Int32, y = (x4 + (1 : Int32)) := ⟨_, rfl⟩
  have hf := nx_at e105 hf
  refine lv_iinc (v := v105) (lv' := [(4, .int v105), (0, .ref (eB E + 47)), (1, .int x1), (2, .int x2), (3, .int x3)]) hx hb dX11_doubt_105 hl (k := 4) rfl (by rw [e105]; rfl) (by decide) rfl (fun ls hl => ?_)
  refine lv_goto (tgt := 27) hx hb dX11_doubt_108 (by decide) ?_
  exact hk27 hf hR (lv_sub hl [1, 2, 3, 4, 0] rfl)
set_option maxHeartbeats 4000000 in
set_option maxRecDepth 100000 in
theorem wX11_doubt_104 {r : Int32} {M1 : Mem} {k27 : Int32 → Int32 → Int32 → Int32 → Mem → Option (Int32 × Mem)} {k73 : Mem → Option (Int32 × Mem)} {k111 : Int32 → Mem → Option (Int32 × Mem)} (X : CX E p s m args c meth cX11_doubt 5 (some .int) RX11) (hk27 : ∀ {x1 : Int32} {x2 : Int32} {x3 : Int32} {x4 : Int32} {M : Mem} {H : Heap} {locs : List Loc} {ls : Array Slot}, k27 x1 x2 x3 x4 M = some (r, M1) → Rl E (sh_ b) (nn b) s.heap M H locs → lv_has ls 5 [(0, .ref (eB E + 47)), (1, .int x1), (2, .int x2), (3, .int x3), (4, .int x4)] → W p l e (rm 5 0 0) s m args below meth c H locs 0 0 (MQ below (qq E (some (.int r)) (sh_ b) (nn b) M1) args s 0 0 (fr E)) (F0 m 27 ls [])) (hk73 : ∀ {M : Mem} {H : Heap} {locs : List Loc} {ls : Array Slot}, k73 M = some (r, M1) → Rl E (sh_ b) (nn b) s.heap M H locs → lv_has ls 5 [] → W p l e (rm 5 0 0) s m args below meth c H locs 0 0 (MQ below (qq E (some (.int r)) (sh_ b) (nn b) M1) args s 0 0 (fr E)) (F0 m 73 ls [])) (hk111 : ∀ {x3 : Int32} {M : Mem} {H : Heap} {locs : List Loc} {ls : Array Slot}, k111 x3 M = some (r, M1) → Rl E (sh_ b) (nn b) s.heap M H locs → lv_has ls 5 [(3, .int x3)] → W p l e (rm 5 0 0) s m args below meth c H locs 0 0 (MQ below (qq E (some (.int r)) (sh_ b) (nn b) M1) args s 0 0 (fr E)) (F0 m 111 ls [])) : ∀ {x1 : Int32} {x2 : Int32} {x4 : Int32} {s0 : Int32} {M : Mem} {H : Heap} {locs : List Loc} {ls : Array Slot}, fX11_doubt_104 k27 k73 k111 x1 x2 x4 s0 M = some (r, M1) → Rl E (sh_ b) (nn b) s.heap M H locs → lv_has ls 5 [(0, .ref (eB E + 47)), (1, .int x1), (2, .int x2), (4, .int x4)] → W p l e (rm 5 0 0) s m args below meth c H locs 0 0 (MQ below (qq E (some (.int r)) (sh_ b) (nn b) M1) args s 0 0 (fr E)) (F0 m 104 ls [.int s0]) := by
  obtain ⟨hx, hb, hr, hml, hown, hts, hK, hN, hO, hlk, hbs⟩ := id X
  intro x1 x2 x4 s0 M H locs ls hf hR hl
  unfold fX11_doubt_104 at hf
  refine lv_istore_n (lv' := [(3, .int s0), (0, .ref (eB E + 47)), (1, .int x1), (2, .int x2), (4, .int x4)]) hx hb dX11_doubt_104 rfl hl (by decide) rfl (fun ls hl => ?_)
  exact wX11_doubt_105 X (fun hf hR hl => hk27 hf hR hl) (fun hf hR hl => hk73 hf hR hl) (fun hf hR hl => hk111 hf hR hl) hf hR (lv_sub hl [1, 2, 3, 0, 4] rfl)
set_option maxHeartbeats 4000000 in
set_option maxRecDepth 100000 in
theorem wX11_doubt_99 {r : Int32} {M1 : Mem} {k27 : Int32 → Int32 → Int32 → Int32 → Mem → Option (Int32 × Mem)} {k73 : Mem → Option (Int32 × Mem)} {k111 : Int32 → Mem → Option (Int32 × Mem)} (X : CX E p s m args c meth cX11_doubt 5 (some .int) RX11) (hk27 : ∀ {x1 : Int32} {x2 : Int32} {x3 : Int32} {x4 : Int32} {M : Mem} {H : Heap} {locs : List Loc} {ls : Array Slot}, k27 x1 x2 x3 x4 M = some (r, M1) → Rl E (sh_ b) (nn b) s.heap M H locs → lv_has ls 5 [(0, .ref (eB E + 47)), (1, .int x1), (2, .int x2), (3, .int x3), (4, .int x4)] → W p l e (rm 5 0 0) s m args below meth c H locs 0 0 (MQ below (qq E (some (.int r)) (sh_ b) (nn b) M1) args s 0 0 (fr E)) (F0 m 27 ls [])) (hk73 : ∀ {M : Mem} {H : Heap} {locs : List Loc} {ls : Array Slot}, k73 M = some (r, M1) → Rl E (sh_ b) (nn b) s.heap M H locs → lv_has ls 5 [] → W p l e (rm 5 0 0) s m args below meth c H locs 0 0 (MQ below (qq E (some (.int r)) (sh_ b) (nn b) M1) args s 0 0 (fr E)) (F0 m 73 ls [])) (hk111 : ∀ {x3 : Int32} {M : Mem} {H : Heap} {locs : List Loc} {ls : Array Slot}, k111 x3 M = some (r, M1) → Rl E (sh_ b) (nn b) s.heap M H locs → lv_has ls 5 [(3, .int x3)] → W p l e (rm 5 0 0) s m args below meth c H locs 0 0 (MQ below (qq E (some (.int r)) (sh_ b) (nn b) M1) args s 0 0 (fr E)) (F0 m 111 ls [])) : ∀ {x1 : Int32} {x2 : Int32} {x4 : Int32} {M : Mem} {H : Heap} {locs : List Loc} {ls : Array Slot}, fX11_doubt_99 k27 k73 k111 x1 x2 x4 M = some (r, M1) → Rl E (sh_ b) (nn b) s.heap M H locs → lv_has ls 5 [(0, .ref (eB E + 47)), (1, .int x1), (2, .int x2), (4, .int x4)] → W p l e (rm 5 0 0) s m args below meth c H locs 0 0 (MQ below (qq E (some (.int r)) (sh_ b) (nn b) M1) args s 0 0 (fr E)) (F0 m 99 ls []) := by
  obtain ⟨hx, hb, hr, hml, hown, hts, hK, hN, hO, hlk, hbs⟩ := id X
  intro x1 x2 x4 M H locs ls hf hR hl
  unfold fX11_doubt_99 at hf
  refine lv_iconst (v := 1) hx hb dX11_doubt_99 (by decide) ?_
  refine lv_goto (tgt := 104) hx hb dX11_doubt_100 (by decide) ?_
  exact wX11_doubt_104 X (fun hf hR hl => hk27 hf hR hl) (fun hf hR hl => hk73 hf hR hl) (fun hf hR hl => hk111 hf hR hl) hf hR hl
set_option maxHeartbeats 4000000 in
set_option maxRecDepth 100000 in
theorem wX11_doubt_27 {r : Int32} {M1 : Mem} {k73 : Mem → Option (Int32 × Mem)} {k111 : Int32 → Mem → Option (Int32 × Mem)} (X : CX E p s m args c meth cX11_doubt 5 (some .int) RX11) (hk73 : ∀ {M : Mem} {H : Heap} {locs : List Loc} {ls : Array Slot}, k73 M = some (r, M1) → Rl E (sh_ b) (nn b) s.heap M H locs → lv_has ls 5 [] → W p l e (rm 5 0 0) s m args below meth c H locs 0 0 (MQ below (qq E (some (.int r)) (sh_ b) (nn b) M1) args s 0 0 (fr E)) (F0 m 73 ls [])) (hk111 : ∀ {x3 : Int32} {M : Mem} {H : Heap} {locs : List Loc} {ls : Array Slot}, k111 x3 M = some (r, M1) → Rl E (sh_ b) (nn b) s.heap M H locs → lv_has ls 5 [(3, .int x3)] → W p l e (rm 5 0 0) s m args below meth c H locs 0 0 (MQ below (qq E (some (.int r)) (sh_ b) (nn b) M1) args s 0 0 (fr E)) (F0 m 111 ls [])) : ∀ (n : Nat) {x1 : Int32} {x2 : Int32} {x3 : Int32} {x4 : Int32} {M : Mem} {H : Heap} {locs : List Loc} {ls : Array Slot}, fX11_doubt_27 k73 k111 n x1 x2 x3 x4 M = some (r, M1) → Rl E (sh_ b) (nn b) s.heap M H locs → lv_has ls 5 [(0, .ref (eB E + 47)), (1, .int x1), (2, .int x2), (3, .int x3), (4, .int x4)] → W p l e (rm 5 0 0) s m args below meth c H locs 0 0 (MQ below (qq E (some (.int r)) (sh_ b) (nn b) M1) args s 0 0 (fr E)) (F0 m 27 ls []) := by
  obtain ⟨hx, hb, hr, hml, hown, hts, hK, hN, hO, hlk, hbs⟩ := id X
  intro n
  induction n with
  | zero =>
    intro x1 x2 x3 x4 M H locs ls hf hR hl
    exact absurd (show none = some _ from hf) (fun h => by cases h)
  | succ n ih =>
    intro x1 x2 x3 x4 M H locs ls hf hR hl
    rw [fX11_doubt_27] at hf
    refine lv_iload hx hb dX11_doubt_27 (lv_at hl 4 rfl) ?_
    refine lv_aload_n hx hb dX11_doubt_29 rfl (lv_at hl 0 rfl) ?_
    obtain ⟨q30, c30, hf⟩ := br_b hf
    refine x_callV (k := 47) (As := []) (rest := [.int x4]) (st1 := [.int q30, .int x4]) X hR (ctX11_places c30) ml_X11_242 im_X11_places se_X11_places in_X11 co_X11_places yo_X11_places rfl kX11 (z_47 b) (rm_ok (by decide) (by decide)) rfl hl.1 rfl rfl (Nat.le_of_ble_eq_true rfl) dX11_doubt_30 ⟨Nat.zero_le _, Nat.zero_le _⟩ (fun H locs hR => ?_)
    refine lv_icmp_ge (tgt := 111) hx hb dX11_doubt_33 (by decide) (fun q33 => ?_) (fun q33 => ?_)
    · have hf := (br_if hf).1 q33
      exact hk111 hf hR (lv_sub hl [3] rfl)
    · have hf := (br_if hf).2 q33
      refine lv_iload hx hb dX11_doubt_36 (lv_at hl 4 rfl) ?_
      refine lv_iload_n hx hb dX11_doubt_38 rfl (lv_at hl 1 rfl) ?_
      refine lv_icmp_ne (tgt := 45) hx hb dX11_doubt_39 (by decide) (fun q39 => ?_) (fun q39 => ?_)
      · have hf := (br_if hf).2 q39
        refine lv_aload_n hx hb dX11_doubt_45 rfl (lv_at hl 0 rfl) ?_
        refine lv_iload_n hx hb dX11_doubt_46 rfl (lv_at hl 1 rfl) ?_
        refine lv_iload hx hb dX11_doubt_47 (lv_at hl 4 rfl) ?_
        refine lv_iload_n hx hb dX11_doubt_49 rfl (lv_at hl 2 rfl) ?_
        obtain ⟨q50, c50, hf⟩ := br_b hf
        refine x_callV (k := 47) (As := [.int x1, .int x4, .int x2]) (rest := []) (st1 := []) X hR (ctX11_asks c50) ml_X11_424 im_X11_asks se_X11_asks in_X11 co_X11_asks yo_X11_asks rfl kX11 (z_47 b) (rm_ok (by decide) (by decide)) rfl hl.1 rfl rfl (Nat.le_of_ble_eq_true rfl) dX11_doubt_50 ⟨Nat.zero_le _, Nat.zero_le _⟩ (fun H locs hR => ?_)
        refine lv_aload_n hx hb dX11_doubt_53 rfl (lv_at hl 0 rfl) ?_
        refine lv_aload_n hx hb dX11_doubt_54 rfl (lv_at hl 0 rfl) ?_
        refine x_get hx hb hown hts hK hR kX11 (z_47 b) (j := 46) (by decide) fl_X11_416 (v := .int (q50.1 47 46)) rfl dX11_doubt_55 ?_
        refine lv_aload_n hx hb dX11_doubt_58 rfl (lv_at hl 0 rfl) ?_
        refine x_get hx hb hown hts hK hR kX11 (z_47 b) (j := 45) (by decide) fl_X11_413 (v := .int (q50.1 47 45)) rfl dX11_doubt_59 ?_
        refine lv_aload_n hx hb dX11_doubt_62 rfl (lv_at hl 0 rfl) ?_
        refine x_get hx hb hown hts hK hR kX11 (z_47 b) (j := 44) (by decide) fl_X11_410 (v := .int (q50.1 47 44)) rfl dX11_doubt_63 ?_
        refine lv_iadd hx hb dX11_doubt_66 ?_
        obtain ⟨q67, c67, hf⟩ := br_b hf
        refine x_callV (k := 47) (As := [.int (q50.1 47 46), .int ((q50.1 47 45) + (q50.1 47 44))]) (rest := []) (st1 := [.int q67]) X hR (ctX11_isWon c67) ml_X11_273 im_X11_isWon se_X11_isWon in_X11 co_X11_isWon yo_X11_isWon rfl kX11 (z_47 b) (rm_ok (by decide) (by decide)) rfl hl.1 rfl rfl (Nat.le_of_ble_eq_true rfl) dX11_doubt_67 ⟨Nat.zero_le _, Nat.zero_le _⟩ (fun H locs hR => ?_)
        refine lv_if_eq (tgt := 75) hx hb dX11_doubt_70 (by decide) (fun q70 => ?_) (fun q70 => ?_)
        · have hf := (br_if hf).1 q70
          refine lv_iload_n hx hb dX11_doubt_75 rfl (lv_at hl 3 rfl) ?_
          refine lv_if_ne (tgt := 99) hx hb dX11_doubt_76 (by decide) (fun q76 => ?_) (fun q76 => ?_)
          · have hf := (br_if hf).2 q76
            exact wX11_doubt_99 X (fun hf hR hl => ih hf hR hl) (fun hf hR hl => hk73 hf hR hl) (fun hf hR hl => hk111 hf hR hl) hf hR (lv_sub hl [0, 1, 2, 4] rfl)
          · have hf := (br_if hf).1 q76
            refine lv_aload_n hx hb dX11_doubt_79 rfl (lv_at hl 0 rfl) ?_
            refine lv_aload_n hx hb dX11_doubt_80 rfl (lv_at hl 0 rfl) ?_
            refine x_get hx hb hown hts hK hR kX11 (z_47 b) (j := 46) (by decide) fl_X11_416 (v := .int (q50.1 47 46)) rfl dX11_doubt_81 ?_
            refine lv_aload_n hx hb dX11_doubt_84 rfl (lv_at hl 0 rfl) ?_
            refine x_get hx hb hown hts hK hR kX11 (z_47 b) (j := 44) (by decide) fl_X11_410 (v := .int (q50.1 47 44)) rfl dX11_doubt_85 ?_
            refine lv_iadd hx hb dX11_doubt_88 ?_
            refine lv_aload_n hx hb dX11_doubt_89 rfl (lv_at hl 0 rfl) ?_
            refine x_get hx hb hown hts hK hR kX11 (z_47 b) (j := 45) (by decide) fl_X11_413 (v := .int (q50.1 47 45)) rfl dX11_doubt_90 ?_
            obtain ⟨q93, c93, hf⟩ := br_b hf
            refine x_callV (k := 47) (As := [.int ((q50.1 47 46) + (q50.1 47 44)), .int (q50.1 47 45)]) (rest := []) (st1 := [.int q93]) X hR (ctX11_isWon c93) ml_X11_273 im_X11_isWon se_X11_isWon in_X11 co_X11_isWon yo_X11_isWon rfl kX11 (z_47 b) (rm_ok (by decide) (by decide)) rfl hl.1 rfl rfl (Nat.le_of_ble_eq_true rfl) dX11_doubt_93 ⟨Nat.zero_le _, Nat.zero_le _⟩ (fun H locs hR => ?_)
            refine lv_if_eq (tgt := 103) hx hb dX11_doubt_96 (by decide) (fun q96 => ?_) (fun q96 => ?_)
            · have hf := (br_if hf).1 q96
              refine lv_iconst (v := 0) hx hb dX11_doubt_103 (by decide) ?_
              exact wX11_doubt_104 X (fun hf hR hl => ih hf hR hl) (fun hf hR hl => hk73 hf hR hl) (fun hf hR hl => hk111 hf hR hl) hf hR (lv_sub hl [0, 1, 2, 4] rfl)
            · have hf := (br_if hf).2 q96
              exact wX11_doubt_99 X (fun hf hR hl => ih hf hR hl) (fun hf hR hl => hk73 hf hR hl) (fun hf hR hl => hk111 hf hR hl) hf hR (lv_sub hl [0, 1, 2, 4] rfl)
        · have hf := (br_if hf).2 q70
          exact hk73 hf hR (lv_sub hl [] rfl)
      · have hf := (br_if hf).1 q39
        refine lv_goto (tgt := 105) hx hb dX11_doubt_42 (by decide) ?_
        exact wX11_doubt_105 X (fun hf hR hl => ih hf hR hl) (fun hf hR hl => hk73 hf hR hl) (fun hf hR hl => hk111 hf hR hl) hf hR hl
set_option maxHeartbeats 4000000 in
set_option maxRecDepth 100000 in
theorem wX11_doubt_73 {r : Int32} {M1 : Mem} (X : CX E p s m args c meth cX11_doubt 5 (some .int) RX11) : ∀ {M : Mem} {H : Heap} {locs : List Loc} {ls : Array Slot}, fX11_doubt_73 M = some (r, M1) → Rl E (sh_ b) (nn b) s.heap M H locs → lv_has ls 5 [] → W p l e (rm 5 0 0) s m args below meth c H locs 0 0 (MQ below (qq E (some (.int r)) (sh_ b) (nn b) M1) args s 0 0 (fr E)) (F0 m 73 ls []) := by
  obtain ⟨hx, hb, hr, hml, hown, hts, hK, hN, hO, hlk, hbs⟩ := id X
  intro M H locs ls hf hR hl
  unfold fX11_doubt_73 at hf
  refine lv_iconst (v := 0) hx hb dX11_doubt_73 (by decide) ?_
  cases hf
  exact x_iret hx hb hr hlk hR dX11_doubt_74
set_option maxHeartbeats 4000000 in
set_option maxRecDepth 100000 in
theorem wX11_doubt_120 {r : Int32} {M1 : Mem} (X : CX E p s m args c meth cX11_doubt 5 (some .int) RX11) : ∀ {s0 : Int32} {M : Mem} {H : Heap} {locs : List Loc} {ls : Array Slot}, fX11_doubt_120 s0 M = some (r, M1) → Rl E (sh_ b) (nn b) s.heap M H locs → lv_has ls 5 [] → W p l e (rm 5 0 0) s m args below meth c H locs 0 0 (MQ below (qq E (some (.int r)) (sh_ b) (nn b) M1) args s 0 0 (fr E)) (F0 m 120 ls [.int s0]) := by
  obtain ⟨hx, hb, hr, hml, hown, hts, hK, hN, hO, hlk, hbs⟩ := id X
  intro s0 M H locs ls hf hR hl
  unfold fX11_doubt_120 at hf
  cases hf
  exact x_iret hx hb hr hlk hR dX11_doubt_120
set_option maxHeartbeats 4000000 in
set_option maxRecDepth 100000 in
theorem wX11_doubt_111 {r : Int32} {M1 : Mem} (X : CX E p s m args c meth cX11_doubt 5 (some .int) RX11) : ∀ {x3 : Int32} {M : Mem} {H : Heap} {locs : List Loc} {ls : Array Slot}, fX11_doubt_111 x3 M = some (r, M1) → Rl E (sh_ b) (nn b) s.heap M H locs → lv_has ls 5 [(3, .int x3)] → W p l e (rm 5 0 0) s m args below meth c H locs 0 0 (MQ below (qq E (some (.int r)) (sh_ b) (nn b) M1) args s 0 0 (fr E)) (F0 m 111 ls []) := by
  obtain ⟨hx, hb, hr, hml, hown, hts, hK, hN, hO, hlk, hbs⟩ := id X
  intro x3 M H locs ls hf hR hl
  unfold fX11_doubt_111 at hf
  refine lv_iload_n hx hb dX11_doubt_111 rfl (lv_at hl 0 rfl) ?_
  refine lv_if_eq (tgt := 119) hx hb dX11_doubt_112 (by decide) (fun q112 => ?_) (fun q112 => ?_)
  · have hf := (br_if hf).1 q112
    refine lv_iconst (v := 2) hx hb dX11_doubt_119 (by decide) ?_
    exact wX11_doubt_120 X hf hR (lv_sub hl [] rfl)
  · have hf := (br_if hf).2 q112
    refine lv_iconst (v := 1) hx hb dX11_doubt_115 (by decide) ?_
    refine lv_goto (tgt := 120) hx hb dX11_doubt_116 (by decide) ?_
    exact wX11_doubt_120 X hf hR (lv_sub hl [] rfl)
set_option maxHeartbeats 4000000 in
set_option maxRecDepth 100000 in
theorem wX11_doubt_0 {r : Int32} {M1 : Mem} (X : CX E p s m args c meth cX11_doubt 5 (some .int) RX11) : ∀ {x1 : Int32} {x2 : Int32} {M : Mem} {H : Heap} {locs : List Loc} {ls : Array Slot}, fX11_doubt x1 x2 M = some (r, M1) → Rl E (sh_ b) (nn b) s.heap M H locs → lv_has ls 5 [(0, .ref (eB E + 47)), (1, .int x1), (2, .int x2)] → W p l e (rm 5 0 0) s m args below meth c H locs 0 0 (MQ below (qq E (some (.int r)) (sh_ b) (nn b) M1) args s 0 0 (fr E)) (F0 m 0 ls []) := by
  obtain ⟨hx, hb, hr, hml, hown, hts, hK, hN, hO, hlk, hbs⟩ := id X
  intro x1 x2 M H locs ls hf hR hl
  unfold fX11_doubt at hf
  refine lv_aload_n hx hb dX11_doubt_0 rfl (lv_at hl 0 rfl) ?_
  refine lv_iload_n hx hb dX11_doubt_1 rfl (lv_at hl 1 rfl) ?_
  obtain ⟨q2, c2, hf⟩ := br_b hf
  refine x_callV (k := 47) (As := [.int x1]) (rest := []) (st1 := [.int q2]) X hR (ctX11_isPlace c2) ml_X11_248 im_X11_isPlace se_X11_isPlace in_X11 co_X11_isPlace yo_X11_isPlace rfl kX11 (z_47 b) (rm_ok (by decide) (by decide)) rfl hl.1 rfl rfl (Nat.le_of_ble_eq_true rfl) dX11_doubt_2 ⟨Nat.zero_le _, Nat.zero_le _⟩ (fun H locs hR => ?_)
  refine lv_if_eq (tgt := 20) hx hb dX11_doubt_5 (by decide) (fun q5 => ?_) (fun q5 => ?_)
  · have hf := (br_if hf).1 q5
    exact wX11_doubt_20 X hf hR (lv_sub hl [] rfl)
  · have hf := (br_if hf).2 q5
    refine lv_iload_n hx hb dX11_doubt_8 rfl (lv_at hl 2 rfl) ?_
    refine lv_i2l (v := x2.toInt64) hx hb dX11_doubt_9 rfl ?_
    refine lv_lconst (v := 0) hx hb dX11_doubt_10 (by decide) ?_
    refine lv_ldc2 hx hb hown (hts _ kl_X11_422) dX11_doubt_11 ?_
    obtain ⟨q14, c14, hf⟩ := br_b hf
    refine x_callS (As := [.long x2.toInt64, .long (0 : Int64), .long (5 : Int64)]) (rest := []) (st1 := [.int q14]) X hR (ctX11_in c14) ml_X11_122 st_X11_in in_X11 co_X11_in yo_X11_in (rm_ok (by decide) (by decide)) rfl hl.1 rfl rfl (Nat.le_of_ble_eq_true rfl) dX11_doubt_14 ⟨Nat.zero_le _, Nat.zero_le _⟩ (fun H locs hR => ?_)
    refine lv_if_ne (tgt := 22) hx hb dX11_doubt_17 (by decide) (fun q17 => ?_) (fun q17 => ?_)
    · have hf := (br_if hf).2 q17
      refine lv_iconst (v := 0) hx hb dX11_doubt_22 (by decide) ?_
      refine lv_istore_n (lv' := [(3, .int (0 : Int32)), (0, .ref (eB E + 47)), (1, .int x1), (2, .int x2)]) hx hb dX11_doubt_23 rfl hl (by decide) rfl (fun ls hl => ?_)
      refine lv_iconst (v := 0) hx hb dX11_doubt_24 (by decide) ?_
      refine lv_istore (lv' := [(4, .int (0 : Int32)), (3, .int (0 : Int32)), (0, .ref (eB E + 47)), (1, .int x1), (2, .int x2)]) hx hb dX11_doubt_25 hl (by decide) rfl (fun ls hl => ?_)
      exact wX11_doubt_27 X (fun hf hR hl => wX11_doubt_73 X hf hR hl) (fun hf hR hl => wX11_doubt_111 X hf hR hl) FU hf hR (lv_sub hl [2, 3, 4, 1, 0] rfl)
    · have hf := (br_if hf).1 q17
      exact wX11_doubt_20 X hf hR (lv_sub hl [] rfl)
theorem ctX11_doubt {l : Launch} {E : Ge} {b : Bool} {M : Mem} {x1 : Int32} {x2 : Int32} {r : Int32} {M1 : Mem} (h : fX11_doubt x1 x2 M = some (r, M1)) : CT l E yX11_doubt cX11_doubt 5 (some .int) 5 0 0 [.ref (eB E + 47), .int x1, .int x2] (some (.int r)) (sh_ b) (nn b) M (sh_ b) (nn b) M1 := by
  refine met_of (by decide) (Nat.le_of_ble_eq_true rfl) ?_
  intro p e s m args below meth c X _ hR ls hl
  exact wX11_doubt_0 X h hR hl
end WK
