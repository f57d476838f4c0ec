section WK
variable {p : Program} {l : Launch} {e : Env} {s : State} {m : MethodId} {args : Array Value} {below : List Frame} {meth : Method} {c : Code} {E : Ge} {b : Bool}
def fX11_isVoter (M : Mem) (x1 : Int32) : Option Int32 := (fX11_voters M).bind (fun q4 => (fX11_in M (x1.toInt64) (0 : Int64) ((q4 - (1 : Int32)).toInt64)).bind (fun q10 => some (q10 &&& 1)))
set_option maxHeartbeats 4000000 in
set_option maxRecDepth 100000 in
theorem wX11_isVoter_0 {r : Int32} {M : Mem} (X : CX E p s m args c meth cX11_isVoter 2 (some .boolean) RX11) : ∀ {x1 : Int32} {H : Heap} {locs : List Loc} {ls : Array Slot}, fX11_isVoter M x1 = some r → Rl E (sh_ b) (nn b) s.heap M H locs → lv_has ls 2 [(0, .ref (eB E + 47)), (1, .int x1)] → W p l e (rm 2 0 0) s m args below meth c H locs 0 0 (MQ below (qq E (some (.int r)) (sh_ b) (nn b) M) args s 0 0 (fr E)) (F0 m 0 ls []) := by
  obtain ⟨hx, hb, hr, hml, hown, hts, hK, hN, hO, hlk, hbs⟩ := id X
  intro x1 H locs ls hf hR hl
  unfold fX11_isVoter at hf
  refine lv_iload_n hx hb dX11_isVoter_0 rfl (lv_at hl 1 rfl) ?_
  refine lv_i2l (v := x1.toInt64) hx hb dX11_isVoter_1 rfl ?_
  refine lv_lconst (v := 0) hx hb dX11_isVoter_2 (by decide) ?_
  refine lv_aload_n hx hb dX11_isVoter_3 rfl (lv_at hl 0 rfl) ?_
  obtain ⟨q4, c4, hf⟩ := br_b hf
  refine x_callV (k := 47) (As := []) (rest := [.long (0 : Int64), .long x1.toInt64]) (st1 := [.int q4, .long (0 : Int64), .long x1.toInt64]) X hR (ctX11_voters c4) ml_X11_237 im_X11_voters se_X11_voters in_X11 co_X11_voters yo_X11_voters rfl kX11 (z_47 b) (rm_ok (by decide) (by decide)) rfl hl.1 rfl rfl (Nat.le_of_ble_eq_true rfl) dX11_isVoter_4 ⟨Nat.zero_le _, Nat.zero_le _⟩ (fun H locs hR => ?_)
  refine lv_iconst (v := 1) hx hb dX11_isVoter_7 (by decide) ?_
  refine lv_isub hx hb dX11_isVoter_8 ?_
  refine lv_i2l (v := (q4 - (1 : Int32)).toInt64) hx hb dX11_isVoter_9 rfl ?_
  obtain ⟨q10, c10, hf⟩ := br_b hf
  refine x_callS (As := [.long x1.toInt64, .long (0 : Int64), .long (q4 - (1 : Int32)).toInt64]) (rest := []) (st1 := [.int q10]) X hR (ctX11_in c10) ml_X11_122 st_X11_in in_X11 co_X11_in yo_X11_in (rm_ok (by decide) (by decide)) rfl hl.1 rfl rfl (Nat.le_of_ble_eq_true rfl) dX11_isVoter_10 ⟨Nat.zero_le _, Nat.zero_le _⟩ (fun H locs hR => ?_)
  cases hf
  exact x_zret hx hb hr hlk hR rfl dX11_isVoter_13
theorem ctX11_isVoter {l : Launch} {E : Ge} {b : Bool} {M : Mem} {x1 : Int32} {r : Int32} (h : fX11_isVoter M x1 = some r) : CT l E yX11_isVoter cX11_isVoter 2 (some .boolean) 2 0 0 [.ref (eB E + 47), .int x1] (some (.int r)) (sh_ b) (nn b) M (sh_ b) (nn b) M := by
  refine met_of (by decide) (Nat.le_of_ble_eq_true rfl) ?_
  intro p e s m args below meth c X _ hR ls hl
  exact wX11_isVoter_0 X h hR hl
def fX11_joins_87 (k2 : Int32 → Int32 → Int32 → Mem → Option (Int32 × Mem)) (k93 : Int32 → Mem → Option (Int32 × Mem)) (x1 : Int32) (x2 : Int32) (x3 : Int32) (M : Mem) : Option (Int32 × Mem) := nx (x3 + (1 : Int32)) (fun v87 => k2 x1 x2 v87 M)
def fX11_joins_2 (k93 : Int32 → Mem → Option (Int32 × Mem)) : Nat → Int32 → Int32 → Int32 → Mem → Option (Int32 × Mem)
  | 0, _, _, _, _ => none
  | n + 1, x1, x2, x3, M => (fX11_voters M).bind (fun q4 => (if q4 ≤ x3 then k93 x2 M else (if inb x3 15 = true then (if inb x3 15 = true then nx (sI M 98 (ix x3) (M.1 50 (ix x3))) (fun M23 => (if inb x3 15 = true then (if inb x3 15 = true then nx (sI M23 99 (ix x3) (M23.1 53 (ix x3))) (fun M37 => (if (9 : Int32) ≤ x3 then fX11_joins_87 (fX11_joins_2 k93 n) k93 x1 x2 x3 M37 else (if ((x1 >>> (x3 &&& 31)) &&& (1 : Int32)) = 0 then fX11_joins_87 (fX11_joins_2 k93 n) k93 x1 x2 x3 M37 else (if inb x2 20 = true then (if inb x3 15 = true then nx (sI M37 50 (ix x3) (M37.1 68 (ix x2))) (fun M70 => (if inb x2 20 = true then (if inb x3 15 = true then nx (sI M70 53 (ix x3) (M70.1 71 (ix x2))) (fun M86 => fX11_joins_87 (fX11_joins_2 k93 n) k93 x1 x2 x3 M86) else none) else none)) else none) else none)))) else none) else none)) else none) else none)))
def fX11_joins_102 (k149 : Int32 → Mem → Option (Int32 × Mem)) : Nat → Int32 → Int32 → Mem → Option (Int32 × Mem)
  | 0, _, _, _ => none
  | n + 1, x3, x4, M => (fX11_voters M).bind (fun q105 => (if q105 ≤ x4 then k149 x3 M else (if inb x4 15 = true then (if inb x4 15 = true then nx (sI M 50 (ix x4) (M.1 98 (ix x4))) (fun M126 => (if inb x4 15 = true then (if inb x4 15 = true then nx (sI M126 53 (ix x4) (M126.1 99 (ix x4))) (fun M142 => nx (x4 + (1 : Int32)) (fun v143 => fX11_joins_102 k149 n x3 v143 M142)) else none) else none)) else none) else none)))
def fX11_joins_149 (x3 : Int32) (M : Mem) : Option (Int32 × Mem) := some ((x3 &&& 1), M)
def fX11_joins_93 (x2 : Int32) (M : Mem) : Option (Int32 × Mem) := (fX11_isUnbeaten M x2).bind (fun q95 => fX11_joins_102 fX11_joins_149 FU q95 (0 : Int32) M)
def fX11_joins (x1 : Int32) (x2 : Int32) (M : Mem) : Option (Int32 × Mem) := fX11_joins_2 fX11_joins_93 FU x1 x2 (0 : Int32) M
set_option maxHeartbeats 4000000 in
set_option maxRecDepth 100000 in
theorem wX11_joins_87 {r : Int32} {M1 : Mem} {k2 : Int32 → Int32 → Int32 → Mem → Option (Int32 × Mem)} {k93 : Int32 → Mem → Option (Int32 × Mem)} (X : CX E p s m args c meth cX11_joins 5 (some .boolean) RX11) (hk2 : ∀ {x1 : Int32} {x2 : Int32} {x3 : Int32} {M : Mem} {H : Heap} {locs : List Loc} {ls : Array Slot}, k2 x1 x2 x3 M = some (r, M1) → Rl E (sh_ b) (nn b) s.heap M H locs → lv_has ls 5 [(0, .ref (eB E + 47)), (1, .int x1), (2, .int x2), (3, .int x3)] → W p l e (rm 8 0 0) s m args below meth c H locs 0 0 (MQ below (qq E (some (.int r)) (sh_ b) (nn b) M1) args s 0 0 (fr E)) (F0 m 2 ls [])) (hk93 : ∀ {x2 : Int32} {M : Mem} {H : Heap} {locs : List Loc} {ls : Array Slot}, k93 x2 M = some (r, M1) → Rl E (sh_ b) (nn b) s.heap M H locs → lv_has ls 5 [(0, .ref (eB E + 47)), (2, .int x2)] → W p l e (rm 8 0 0) s m args below meth c H locs 0 0 (MQ below (qq E (some (.int r)) (sh_ b) (nn b) M1) args s 0 0 (fr E)) (F0 m 93 ls [])) : ∀ {x1 : Int32} {x2 : Int32} {x3 : Int32} {M : Mem} {H : Heap} {locs : List Loc} {ls : Array Slot}, fX11_joins_87 k2 k93 x1 x2 x3 M = some (r, M1) → Rl E (sh_ b) (nn b) s.heap M H locs → lv_has ls 5 [(0, .ref (eB E + 47)), (1, .int x1), (2, .int x2), (3, .int x3)] → W p l e (rm 8 0 0) s m args below meth c H locs 0 0 (MQ below (qq E (some (.int r)) (sh_ b) (nn b) M1) args s 0 0 (fr E)) (F0 m 87 ls []) := by
  obtain ⟨hx, hb, hr, hml, hown, hts, hK, hN, hO, hlk, hbs⟩ := id X
  intro x1 x2 x3 M H locs ls hf hR hl
  unfold fX11_joins_87 at hf
  obtain ⟨v87, e87⟩ : ∃ y : Int32, y = (x3 + (1 : Int32)) := ⟨_, rfl⟩
  have hf := nx_at e87 hf
  refine lv_iinc (v := v87) (lv' := [(3, .int v87), (0, .ref (eB E + 47)), (1, .int x1), (2, .int x2)]) hx hb dX11_joins_87 hl (k := 3) rfl (by rw [e87]; rfl) (by decide) rfl (fun ls hl => ?_)
  refine lv_goto (tgt := 2) hx hb dX11_joins_90 (by decide) ?_
  exact hk2 hf hR (lv_sub hl [1, 2, 3, 0] rfl)
set_option maxHeartbeats 4000000 in
set_option maxRecDepth 100000 in
theorem wX11_joins_2 {r : Int32} {M1 : Mem} {k93 : Int32 → Mem → Option (Int32 × Mem)} (X : CX E p s m args c meth cX11_joins 5 (some .boolean) RX11) (hk93 : ∀ {x2 : Int32} {M : Mem} {H : Heap} {locs : List Loc} {ls : Array Slot}, k93 x2 M = some (r, M1) → Rl E (sh_ b) (nn b) s.heap M H locs → lv_has ls 5 [(0, .ref (eB E + 47)), (2, .int x2)] → W p l e (rm 8 0 0) s m args below meth c H locs 0 0 (MQ below (qq E (some (.int r)) (sh_ b) (nn b) M1) args s 0 0 (fr E)) (F0 m 93 ls [])) : ∀ (n : Nat) {x1 : Int32} {x2 : Int32} {x3 : Int32} {M : Mem} {H : Heap} {locs : List Loc} {ls : Array Slot}, fX11_joins_2 k93 n x1 x2 x3 M = some (r, M1) → Rl E (sh_ b) (nn b) s.heap M H locs → lv_has ls 5 [(0, .ref (eB E + 47)), (1, .int x1), (2, .int x2), (3, .int x3)] → W p l e (rm 8 0 0) s m args below meth c H locs 0 0 (MQ below (qq E (some (.int r)) (sh_ b) (nn b) M1) args s 0 0 (fr E)) (F0 m 2 ls []) := by
  obtain ⟨hx, hb, hr, hml, hown, hts, hK, hN, hO, hlk, hbs⟩ := id X
  intro n
  induction n with
  | zero =>
    intro x1 x2 x3 M H locs ls hf hR hl
    exact absurd (show none = some _ from hf) (fun h => by cases h)
  | succ n ih =>
    intro x1 x2 x3 M H locs ls hf hR hl
    rw [fX11_joins_2] at hf
    refine lv_iload_n hx hb dX11_joins_2 rfl (lv_at hl 3 rfl) ?_
    refine lv_aload_n hx hb dX11_joins_3 rfl (lv_at hl 0 rfl) ?_
    obtain ⟨q4, c4, hf⟩ := br_b hf
    refine x_callV (k := 47) (As := []) (rest := [.int x3]) (st1 := [.int q4, .int x3]) X hR (ctX11_voters c4) ml_X11_237 im_X11_voters se_X11_voters in_X11 co_X11_voters yo_X11_voters rfl kX11 (z_47 b) (rm_ok (by decide) (by decide)) rfl hl.1 rfl rfl (Nat.le_of_ble_eq_true rfl) dX11_joins_4 ⟨Nat.zero_le _, Nat.zero_le _⟩ (fun H locs hR => ?_)
    refine lv_icmp_ge (tgt := 93) hx hb dX11_joins_7 (by decide) (fun q7 => ?_) (fun q7 => ?_)
    · have hf := (br_if hf).1 q7
      exact hk93 hf hR (lv_sub hl [0, 2] rfl)
    · have hf := (br_if hf).2 q7
      refine lv_aload_n hx hb dX11_joins_10 rfl (lv_at hl 0 rfl) ?_
      refine x_get hx hb hown hts hK hR kX11 (z_47 b) (j := 42) (by decide) fl_X11_105 (v := .ref (eB E + 98)) rfl dX11_joins_11 ?_
      refine lv_iload_n hx hb dX11_joins_14 rfl (lv_at hl 3 rfl) ?_
      refine lv_aload_n hx hb dX11_joins_15 rfl (lv_at hl 0 rfl) ?_
      refine x_get hx hb hown hts hK hR kX11 (z_47 b) (j := 6) (by decide) fl_X11_15 (v := .ref (eB E + 49)) rfl dX11_joins_16 ?_
      refine lv_iconst (v := 0) hx hb dX11_joins_19 (by decide) ?_
      refine x_aald5 hx hb hK hR (z_49 b) (by decide) (r := 50) rfl dX11_joins_20 ?_
      refine lv_iload_n hx hb dX11_joins_21 rfl (lv_at hl 3 rfl) ?_
      obtain ⟨g22, hf⟩ := br_g hf
      refine x_iald hx hb hK hR (z_50 b) g22 dX11_joins_22 ?_
      obtain ⟨g23, hf⟩ := br_g hf
      refine x_iast hx hb hK hR (z_98 b) g23 dX11_joins_23 (fun H locs hR => ?_)
      obtain ⟨M23, e23⟩ : ∃ y : Mem, y = (sI M 98 (ix x3) (M.1 50 (ix x3))) := ⟨_, rfl⟩
      have hf := nx_at e23 hf
      have hR : Rl E (sh_ b) (nn b) s.heap M23 H locs := by rw [e23]; exact hR
      refine lv_aload_n hx hb dX11_joins_24 rfl (lv_at hl 0 rfl) ?_
      refine x_get hx hb hown hts hK hR kX11 (z_47 b) (j := 43) (by decide) fl_X11_108 (v := .ref (eB E + 99)) rfl dX11_joins_25 ?_
      refine lv_iload_n hx hb dX11_joins_28 rfl (lv_at hl 3 rfl) ?_
      refine lv_aload_n hx hb dX11_joins_29 rfl (lv_at hl 0 rfl) ?_
      refine x_get hx hb hown hts hK hR kX11 (z_47 b) (j := 7) (by decide) fl_X11_18 (v := .ref (eB E + 52)) rfl dX11_joins_30 ?_
      refine lv_iconst (v := 0) hx hb dX11_joins_33 (by decide) ?_
      refine x_aald5 hx hb hK hR (z_52 b) (by decide) (r := 53) rfl dX11_joins_34 ?_
      refine lv_iload_n hx hb dX11_joins_35 rfl (lv_at hl 3 rfl) ?_
      obtain ⟨g36, hf⟩ := br_g hf
      refine x_iald hx hb hK hR (z_53 b) g36 dX11_joins_36 ?_
      obtain ⟨g37, hf⟩ := br_g hf
      refine x_iast hx hb hK hR (z_99 b) g37 dX11_joins_37 (fun H locs hR => ?_)
      obtain ⟨M37, e37⟩ : ∃ y : Mem, y = (sI M23 99 (ix x3) (M23.1 53 (ix x3))) := ⟨_, rfl⟩
      have hf := nx_at e37 hf
      have hR : Rl E (sh_ b) (nn b) s.heap M37 H locs := by rw [e37]; exact hR
      refine lv_iload_n hx hb dX11_joins_38 rfl (lv_at hl 3 rfl) ?_
      refine lv_bipush (v := 9) hx hb dX11_joins_39 (by decide) ?_
      refine lv_icmp_ge (tgt := 87) hx hb dX11_joins_41 (by decide) (fun q41 => ?_) (fun q41 => ?_)
      · have hf := (br_if hf).1 q41
        exact wX11_joins_87 X (fun hf hR hl => ih hf hR hl) (fun hf hR hl => hk93 hf hR hl) hf hR hl
      · have hf := (br_if hf).2 q41
        refine lv_iload_n hx hb dX11_joins_44 rfl (lv_at hl 1 rfl) ?_
        refine lv_iload_n hx hb dX11_joins_45 rfl (lv_at hl 3 rfl) ?_
        refine lv_ishr hx hb dX11_joins_46 ?_
        refine lv_iconst (v := 1) hx hb dX11_joins_47 (by decide) ?_
        refine lv_iand hx hb dX11_joins_48 ?_
        refine lv_if_ne (tgt := 55) hx hb dX11_joins_49 (by decide) (fun q49 => ?_) (fun q49 => ?_)
        · have hf := (br_if hf).2 q49
          refine lv_aload_n hx hb dX11_joins_55 rfl (lv_at hl 0 rfl) ?_
          refine x_get hx hb hown hts hK hR kX11 (z_47 b) (j := 6) (by decide) fl_X11_15 (v := .ref (eB E + 49)) rfl dX11_joins_56 ?_
          refine lv_iconst (v := 0) hx hb dX11_joins_59 (by decide) ?_
          refine x_aald5 hx hb hK hR (z_49 b) (by decide) (r := 50) rfl dX11_joins_60 ?_
          refine lv_iload_n hx hb dX11_joins_61 rfl (lv_at hl 3 rfl) ?_
          refine lv_aload_n hx hb dX11_joins_62 rfl (lv_at hl 0 rfl) ?_
          refine x_get hx hb hown hts hK hR kX11 (z_47 b) (j := 12) (by decide) fl_X11_33 (v := .ref (eB E + 67)) rfl dX11_joins_63 ?_
          refine lv_iconst (v := 0) hx hb dX11_joins_66 (by decide) ?_
          refine x_aald5 hx hb hK hR (z_67 b) (by decide) (r := 68) rfl dX11_joins_67 ?_
          refine lv_iload_n hx hb dX11_joins_68 rfl (lv_at hl 2 rfl) ?_
          obtain ⟨g69, hf⟩ := br_g hf
          refine x_iald hx hb hK hR (z_68 b) g69 dX11_joins_69 ?_
          obtain ⟨g70, hf⟩ := br_g hf
          refine x_iast hx hb hK hR (z_50 b) g70 dX11_joins_70 (fun H locs hR => ?_)
          obtain ⟨M70, e70⟩ : ∃ y : Mem, y = (sI M37 50 (ix x3) (M37.1 68 (ix x2))) := ⟨_, rfl⟩
          have hf := nx_at e70 hf
          have hR : Rl E (sh_ b) (nn b) s.heap M70 H locs := by rw [e70]; exact hR
          refine lv_aload_n hx hb dX11_joins_71 rfl (lv_at hl 0 rfl) ?_
          refine x_get hx hb hown hts hK hR kX11 (z_47 b) (j := 7) (by decide) fl_X11_18 (v := .ref (eB E + 52)) rfl dX11_joins_72 ?_
          refine lv_iconst (v := 0) hx hb dX11_joins_75 (by decide) ?_
          refine x_aald5 hx hb hK hR (z_52 b) (by decide) (r := 53) rfl dX11_joins_76 ?_
          refine lv_iload_n hx hb dX11_joins_77 rfl (lv_at hl 3 rfl) ?_
          refine lv_aload_n hx hb dX11_joins_78 rfl (lv_at hl 0 rfl) ?_
          refine x_get hx hb hown hts hK hR kX11 (z_47 b) (j := 13) (by decide) fl_X11_36 (v := .ref (eB E + 70)) rfl dX11_joins_79 ?_
          refine lv_iconst (v := 0) hx hb dX11_joins_82 (by decide) ?_
          refine x_aald5 hx hb hK hR (z_70 b) (by decide) (r := 71) rfl dX11_joins_83 ?_
          refine lv_iload_n hx hb dX11_joins_84 rfl (lv_at hl 2 rfl) ?_
          obtain ⟨g85, hf⟩ := br_g hf
          refine x_iald hx hb hK hR (z_71 b) g85 dX11_joins_85 ?_
          obtain ⟨g86, hf⟩ := br_g hf
          refine x_iast hx hb hK hR (z_53 b) g86 dX11_joins_86 (fun H locs hR => ?_)
          obtain ⟨M86, e86⟩ : ∃ y : Mem, y = (sI M70 53 (ix x3) (M70.1 71 (ix x2))) := ⟨_, rfl⟩
          have hf := nx_at e86 hf
          have hR : Rl E (sh_ b) (nn b) s.heap M86 H locs := by rw [e86]; exact hR
          exact wX11_joins_87 X (fun hf hR hl => ih hf hR hl) (fun hf hR hl => hk93 hf hR hl) hf hR hl
        · have hf := (br_if hf).1 q49
          refine lv_goto (tgt := 87) hx hb dX11_joins_52 (by decide) ?_
          exact wX11_joins_87 X (fun hf hR hl => ih hf hR hl) (fun hf hR hl => hk93 hf hR hl) hf hR hl
set_option maxHeartbeats 4000000 in
set_option maxRecDepth 100000 in
theorem wX11_joins_102 {r : Int32} {M1 : Mem} {k149 : Int32 → Mem → Option (Int32 × Mem)} (X : CX E p s m args c meth cX11_joins 5 (some .boolean) RX11) (hk149 : ∀ {x3 : Int32} {M : Mem} {H : Heap} {locs : List Loc} {ls : Array Slot}, k149 x3 M = some (r, M1) → Rl E (sh_ b) (nn b) s.heap M H locs → lv_has ls 5 [(3, .int x3)] → W p l e (rm 8 0 0) s m args below meth c H locs 0 0 (MQ below (qq E (some (.int r)) (sh_ b) (nn b) M1) args s 0 0 (fr E)) (F0 m 149 ls [])) : ∀ (n : Nat) {x3 : Int32} {x4 : Int32} {M : Mem} {H : Heap} {locs : List Loc} {ls : Array Slot}, fX11_joins_102 k149 n x3 x4 M = some (r, M1) → Rl E (sh_ b) (nn b) s.heap M H locs → lv_has ls 5 [(0, .ref (eB E + 47)), (3, .int x3), (4, .int x4)] → W p l e (rm 8 0 0) s m args below meth c H locs 0 0 (MQ below (qq E (some (.int r)) (sh_ b) (nn b) M1) args s 0 0 (fr E)) (F0 m 102 ls []) := by
  obtain ⟨hx, hb, hr, hml, hown, hts, hK, hN, hO, hlk, hbs⟩ := id X
  intro n
  induction n with
  | zero =>
    intro x3 x4 M H locs ls hf hR hl
    exact absurd (show none = some _ from hf) (fun h => by cases h)
  | succ n ih =>
    intro x3 x4 M H locs ls hf hR hl
    rw [fX11_joins_102] at hf
    refine lv_iload hx hb dX11_joins_102 (lv_at hl 2 rfl) ?_
    refine lv_aload_n hx hb dX11_joins_104 rfl (lv_at hl 0 rfl) ?_
    obtain ⟨q105, c105, hf⟩ := br_b hf
    refine x_callV (k := 47) (As := []) (rest := [.int x4]) (st1 := [.int q105, .int x4]) X hR (ctX11_voters c105) ml_X11_237 im_X11_voters se_X11_voters in_X11 co_X11_voters yo_X11_voters rfl kX11 (z_47 b) (rm_ok (by decide) (by decide)) rfl hl.1 rfl rfl (Nat.le_of_ble_eq_true rfl) dX11_joins_105 ⟨Nat.zero_le _, Nat.zero_le _⟩ (fun H locs hR => ?_)
    refine lv_icmp_ge (tgt := 149) hx hb dX11_joins_108 (by decide) (fun q108 => ?_) (fun q108 => ?_)
    · have hf := (br_if hf).1 q108
      exact hk149 hf hR (lv_sub hl [1] rfl)
    · have hf := (br_if hf).2 q108
      refine lv_aload_n hx hb dX11_joins_111 rfl (lv_at hl 0 rfl) ?_
      refine x_get hx hb hown hts hK hR kX11 (z_47 b) (j := 6) (by decide) fl_X11_15 (v := .ref (eB E + 49)) rfl dX11_joins_112 ?_
      refine lv_iconst (v := 0) hx hb dX11_joins_115 (by decide) ?_
      refine x_aald5 hx hb hK hR (z_49 b) (by decide) (r := 50) rfl dX11_joins_116 ?_
      refine lv_iload hx hb dX11_joins_117 (lv_at hl 2 rfl) ?_
      refine lv_aload_n hx hb dX11_joins_119 rfl (lv_at hl 0 rfl) ?_
      refine x_get hx hb hown hts hK hR kX11 (z_47 b) (j := 42) (by decide) fl_X11_105 (v := .ref (eB E + 98)) rfl dX11_joins_120 ?_
      refine lv_iload hx hb dX11_joins_123 (lv_at hl 2 rfl) ?_
      obtain ⟨g125, hf⟩ := br_g hf
      refine x_iald hx hb hK hR (z_98 b) g125 dX11_joins_125 ?_
      obtain ⟨g126, hf⟩ := br_g hf
      refine x_iast hx hb hK hR (z_50 b) g126 dX11_joins_126 (fun H locs hR => ?_)
      obtain ⟨M126, e126⟩ : ∃ y : Mem, y = (sI M 50 (ix x4) (M.1 98 (ix x4))) := ⟨_, rfl⟩
      have hf := nx_at e126 hf
      have hR : Rl E (sh_ b) (nn b) s.heap M126 H locs := by rw [e126]; exact hR
      refine lv_aload_n hx hb dX11_joins_127 rfl (lv_at hl 0 rfl) ?_
      refine x_get hx hb hown hts hK hR kX11 (z_47 b) (j := 7) (by decide) fl_X11_18 (v := .ref (eB E + 52)) rfl dX11_joins_128 ?_
      refine lv_iconst (v := 0) hx hb dX11_joins_131 (by decide) ?_
      refine x_aald5 hx hb hK hR (z_52 b) (by decide) (r := 53) rfl dX11_joins_132 ?_
      refine lv_iload hx hb dX11_joins_133 (lv_at hl 2 rfl) ?_
      refine lv_aload_n hx hb dX11_joins_135 rfl (lv_at hl 0 rfl) ?_
      refine x_get hx hb hown hts hK hR kX11 (z_47 b) (j := 43) (by decide) fl_X11_108 (v := .ref (eB E + 99)) rfl dX11_joins_136 ?_
      refine lv_iload hx hb dX11_joins_139 (lv_at hl 2 rfl) ?_
      obtain ⟨g141, hf⟩ := br_g hf
      refine x_iald hx hb hK hR (z_99 b) g141 dX11_joins_141 ?_
      obtain ⟨g142, hf⟩ := br_g hf
      refine x_iast hx hb hK hR (z_53 b) g142 dX11_joins_142 (fun H locs hR => ?_)
      obtain ⟨M142, e142⟩ : ∃ y : Mem, y = (sI M126 53 (ix x4) (M126.1 99 (ix x4))) := ⟨_, rfl⟩
      have hf := nx_at e142 hf
      have hR : Rl E (sh_ b) (nn b) s.heap M142 H locs := by rw [e142]; exact hR
      obtain ⟨v143, e143⟩ : ∃ y : Int32, y = (x4 + (1 : Int32)) := ⟨_, rfl⟩
      have hf := nx_at e143 hf
      refine lv_iinc (v := v143) (lv' := [(4, .int v143), (0, .ref (eB E + 47)), (3, .int x3)]) hx hb dX11_joins_143 hl (k := 2) rfl (by rw [e143]; rfl) (by decide) rfl (fun ls hl => ?_)
      refine lv_goto (tgt := 102) hx hb dX11_joins_146 (by decide) ?_
      exact ih hf hR (lv_sub hl [1, 2, 0] rfl)
set_option maxHeartbeats 4000000 in
set_option maxRecDepth 100000 in
theorem wX11_joins_149 {r : Int32} {M1 : Mem} (X : CX E p s m args c meth cX11_joins 5 (some .boolean) RX11) : ∀ {x3 : Int32} {M : Mem} {H : Heap} {locs : List Loc} {ls : Array Slot}, fX11_joins_149 x3 M = some (r, M1) → Rl E (sh_ b) (nn b) s.heap M H locs → lv_has ls 5 [(3, .int x3)] → W p l e (rm 8 0 0) s m args below meth c H locs 0 0 (MQ below (qq E (some (.int r)) (sh_ b) (nn b) M1) args s 0 0 (fr E)) (F0 m 149 ls []) := by
  obtain ⟨hx, hb, hr, hml, hown, hts, hK, hN, hO, hlk, hbs⟩ := id X
  intro x3 M H locs ls hf hR hl
  unfold fX11_joins_149 at hf
  refine lv_iload_n hx hb dX11_joins_149 rfl (lv_at hl 0 rfl) ?_
  cases hf
  exact x_zret hx hb hr hlk hR rfl dX11_joins_150
set_option maxHeartbeats 4000000 in
set_option maxRecDepth 100000 in
theorem wX11_joins_93 {r : Int32} {M1 : Mem} (X : CX E p s m args c meth cX11_joins 5 (some .boolean) RX11) : ∀ {x2 : Int32} {M : Mem} {H : Heap} {locs : List Loc} {ls : Array Slot}, fX11_joins_93 x2 M = some (r, M1) → Rl E (sh_ b) (nn b) s.heap M H locs → lv_has ls 5 [(0, .ref (eB E + 47)), (2, .int x2)] → W p l e (rm 8 0 0) s m args below meth c H locs 0 0 (MQ below (qq E (some (.int r)) (sh_ b) (nn b) M1) args s 0 0 (fr E)) (F0 m 93 ls []) := by
  obtain ⟨hx, hb, hr, hml, hown, hts, hK, hN, hO, hlk, hbs⟩ := id X
  intro x2 M H locs ls hf hR hl
  unfold fX11_joins_93 at hf
  refine lv_aload_n hx hb dX11_joins_93 rfl (lv_at hl 0 rfl) ?_
  refine lv_iload_n hx hb dX11_joins_94 rfl (lv_at hl 1 rfl) ?_
  obtain ⟨q95, c95, hf⟩ := br_b hf
  refine x_callV (k := 47) (As := [.int x2]) (rest := []) (st1 := [.int q95]) X hR (ctX11_isUnbeaten c95) ml_X11_401 im_X11_isUnbeaten se_X11_isUnbeaten in_X11 co_X11_isUnbeaten yo_X11_isUnbeaten rfl kX11 (z_47 b) (rm_ok (by decide) (by decide)) rfl hl.1 rfl rfl (Nat.le_of_ble_eq_true rfl) dX11_joins_95 ⟨Nat.zero_le _, Nat.zero_le _⟩ (fun H locs hR => ?_)
  refine lv_istore_n (lv' := [(3, .int q95), (0, .ref (eB E + 47)), (2, .int x2)]) hx hb dX11_joins_98 rfl hl (by decide) rfl (fun ls hl => ?_)
  refine lv_iconst (v := 0) hx hb dX11_joins_99 (by decide) ?_
  refine lv_istore (lv' := [(4, .int (0 : Int32)), (3, .int q95), (0, .ref (eB E + 47)), (2, .int x2)]) hx hb dX11_joins_100 hl (by decide) rfl (fun ls hl => ?_)
  exact wX11_joins_102 X (fun hf hR hl => wX11_joins_149 X hf hR hl) FU hf hR (lv_sub hl [2, 1, 0] rfl)
set_option maxHeartbeats 4000000 in
set_option maxRecDepth 100000 in
theorem wX11_joins_0 {r : Int32} {M1 : Mem} (X : CX E p s m args c meth cX11_joins 5 (some .boolean) RX11) : ∀ {x1 : Int32} {x2 : Int32} {M : Mem} {H : Heap} {locs : List Loc} {ls : Array Slot}, fX11_joins x1 x2 M = some (r, M1) → Rl E (sh_ b) (nn b) s.heap M H locs → lv_has ls 5 [(0, .ref (eB E + 47)), (1, .int x1), (2, .int x2)] → W p l e (rm 8 0 0) s m args below meth c H locs 0 0 (MQ below (qq E (some (.int r)) (sh_ b) (nn b) M1) args s 0 0 (fr E)) (F0 m 0 ls []) := by
  obtain ⟨hx, hb, hr, hml, hown, hts, hK, hN, hO, hlk, hbs⟩ := id X
  intro x1 x2 M H locs ls hf hR hl
  unfold fX11_joins at hf
  refine lv_iconst (v := 0) hx hb dX11_joins_0 (by decide) ?_
  refine lv_istore_n (lv' := [(3, .int (0 : Int32)), (0, .ref (eB E + 47)), (1, .int x1), (2, .int x2)]) hx hb dX11_joins_1 rfl hl (by decide) rfl (fun ls hl => ?_)
  exact wX11_joins_2 X (fun hf hR hl => wX11_joins_93 X hf hR hl) FU hf hR (lv_sub hl [1, 2, 3, 0] rfl)
theorem ctX11_joins {l : Launch} {E : Ge} {b : Bool} {M : Mem} {x1 : Int32} {x2 : Int32} {r : Int32} {M1 : Mem} (h : fX11_joins x1 x2 M = some (r, M1)) : CT l E yX11_joins cX11_joins 5 (some .boolean) 8 0 0 [.ref (eB E + 47), .int x1, .int x2] (some (.int r)) (sh_ b) (nn b) M (sh_ b) (nn b) M1 := by
  refine met_of (by decide) (Nat.le_of_ble_eq_true rfl) ?_
  intro p e s m args below meth c X _ hR ls hl
  exact wX11_joins_0 X h hR hl
def fX11_join_60 (k30 : Int32 → Int32 → Int32 → Int32 → Mem → Option (Int32 × Mem)) (k57 : Int32 → Mem → Option (Int32 × Mem)) (k66 : Int32 → Int32 → Int32 → Mem → Option (Int32 × Mem)) (x1 : Int32) (x2 : Int32) (x3 : Int32) (x4 : Int32) (M : Mem) : Option (Int32 × Mem) := nx (x4 + (1 : Int32)) (fun v60 => k30 x1 x2 x3 v60 M)
def fX11_join_30 (k57 : Int32 → Mem → Option (Int32 × Mem)) (k66 : Int32 → Int32 → Int32 → Mem → Option (Int32 × Mem)) : Nat → Int32 → Int32 → Int32 → Int32 → Mem → Option (Int32 × Mem)
  | 0, _, _, _, _, _ => none
  | n + 1, x1, x2, x3, x4, M => (if ((1 : Int32) <<< (x2 &&& 31)) ≤ x4 then k66 x1 x2 x3 M else (fJ6_bitCount_0f7a4 M x4).bind (fun q40 => (if q40 = x3 then (fX11_joins x4 x1 M).bind (fun q51 => (if q51.1 = 0 then fX11_join_60 (fX11_join_30 k57 k66 n) k57 k66 x1 x2 x3 x4 (q51.2) else k57 x4 (q51.2))) else fX11_join_60 (fX11_join_30 k57 k66 n) k57 k66 x1 x2 x3 x4 M)))
def fX11_join_66 (k22 : Int32 → Int32 → Int32 → Mem → Option (Int32 × Mem)) (k57 : Int32 → Mem → Option (Int32 × Mem)) (k72 : Mem → Option (Int32 × Mem)) (x1 : Int32) (x2 : Int32) (x3 : Int32) (M : Mem) : Option (Int32 × Mem) := nx (x3 + (1 : Int32)) (fun v66 => k22 x1 x2 v66 M)
def fX11_join_22 (k57 : Int32 → Mem → Option (Int32 × Mem)) (k72 : Mem → Option (Int32 × Mem)) : Nat → Int32 → Int32 → Int32 → Mem → Option (Int32 × Mem)
  | 0, _, _, _, _ => none
  | n + 1, x1, x2, x3, M => (if x2 < x3 then k72 M else fX11_join_30 k57 (fX11_join_66 (fX11_join_22 k57 k72 n) k57 k72) FU x1 x2 x3 (0 : Int32) M)
def fX11_join_57 (x4 : Int32) (M : Mem) : Option (Int32 × Mem) := some (x4, M)
def fX11_join_72 (M : Mem) : Option (Int32 × Mem) := some ((-1 : Int32), M)
def fX11_join (x1 : Int32) (M : Mem) : Option (Int32 × Mem) := (fX11_isPlace M x1).bind (fun q2 => (if q2 = 0 then some ((-1 : Int32), M) else (fX11_voters M).bind (fun q13 => nx (imin (9 : Int32) q13) (fun v19 => fX11_join_22 fX11_join_57 fX11_join_72 FU x1 v19 (0 : Int32) M))))
set_option maxHeartbeats 4000000 in
set_option maxRecDepth 100000 in
theorem wX11_join_60 {r : Int32} {M1 : Mem} {k30 : Int32 → Int32 → Int32 → Int32 → Mem → Option (Int32 × Mem)} {k57 : Int32 → Mem → Option (Int32 × Mem)} {k66 : Int32 → Int32 → Int32 → Mem → Option (Int32 × Mem)} (X : CX E p s m args c meth cX11_join 5 (some .int) RX11) (hk30 : ∀ {x1 : Int32} {x2 : Int32} {x3 : Int32} {x4 : Int32} {M : Mem} {H : Heap} {locs : List Loc} {ls : Array Slot}, k30 x1 x2 x3 x4 M = some (r, M1) → Rl E (sh_ b) (nn b) s.heap M H locs → lv_has ls 5 [(0, .ref (eB E + 47)), (1, .int x1), (2, .int x2), (3, .int x3), (4, .int x4)] → W p l e (rm 9 0 0) s m args below meth c H locs 0 0 (MQ below (qq E (some (.int r)) (sh_ b) (nn b) M1) args s 0 0 (fr E)) (F0 m 30 ls [])) (hk57 : ∀ {x4 : Int32} {M : Mem} {H : Heap} {locs : List Loc} {ls : Array Slot}, k57 x4 M = some (r, M1) → Rl E (sh_ b) (nn b) s.heap M H locs → lv_has ls 5 [(4, .int x4)] → W p l e (rm 9 0 0) s m args below meth c H locs 0 0 (MQ below (qq E (some (.int r)) (sh_ b) (nn b) M1) args s 0 0 (fr E)) (F0 m 57 ls [])) (hk66 : ∀ {x1 : Int32} {x2 : Int32} {x3 : Int32} {M : Mem} {H : Heap} {locs : List Loc} {ls : Array Slot}, k66 x1 x2 x3 M = some (r, M1) → Rl E (sh_ b) (nn b) s.heap M H locs → lv_has ls 5 [(0, .ref (eB E + 47)), (1, .int x1), (2, .int x2), (3, .int x3)] → W p l e (rm 9 0 0) s m args below meth c H locs 0 0 (MQ below (qq E (some (.int r)) (sh_ b) (nn b) M1) args s 0 0 (fr E)) (F0 m 66 ls [])) : ∀ {x1 : Int32} {x2 : Int32} {x3 : Int32} {x4 : Int32} {M : Mem} {H : Heap} {locs : List Loc} {ls : Array Slot}, fX11_join_60 k30 k57 k66 x1 x2 x3 x4 M = some (r, M1) → Rl E (sh_ b) (nn b) s.heap M H locs → lv_has ls 5 [(0, .ref (eB E + 47)), (1, .int x1), (2, .int x2), (3, .int x3), (4, .int x4)] → W p l e (rm 9 0 0) s m args below meth c H locs 0 0 (MQ below (qq E (some (.int r)) (sh_ b) (nn b) M1) args s 0 0 (fr E)) (F0 m 60 ls []) := by
  obtain ⟨hx, hb, hr, hml, hown, hts, hK, hN, hO, hlk, hbs⟩ := id X
  intro x1 x2 x3 x4 M H locs ls hf hR hl
  unfold fX11_join_60 at hf
  obtain ⟨v60, e60⟩ : ∃ y : Int32, y = (x4 + (1 : Int32)) := ⟨_, rfl⟩
  have hf := nx_at e60 hf
  refine lv_iinc (v := v60) (lv' := [(4, .int v60), (0, .ref (eB E + 47)), (1, .int x1), (2, .int x2), (3, .int x3)]) hx hb dX11_join_60 hl (k := 4) rfl (by rw [e60]; rfl) (by decide) rfl (fun ls hl => ?_)
  refine lv_goto (tgt := 30) hx hb dX11_join_63 (by decide) ?_
  exact hk30 hf hR (lv_sub hl [1, 2, 3, 4, 0] rfl)
set_option maxHeartbeats 4000000 in
set_option maxRecDepth 100000 in
theorem wX11_join_30 {r : Int32} {M1 : Mem} {k57 : Int32 → Mem → Option (Int32 × Mem)} {k66 : Int32 → Int32 → Int32 → Mem → Option (Int32 × Mem)} (X : CX E p s m args c meth cX11_join 5 (some .int) RX11) (hk57 : ∀ {x4 : Int32} {M : Mem} {H : Heap} {locs : List Loc} {ls : Array Slot}, k57 x4 M = some (r, M1) → Rl E (sh_ b) (nn b) s.heap M H locs → lv_has ls 5 [(4, .int x4)] → W p l e (rm 9 0 0) s m args below meth c H locs 0 0 (MQ below (qq E (some (.int r)) (sh_ b) (nn b) M1) args s 0 0 (fr E)) (F0 m 57 ls [])) (hk66 : ∀ {x1 : Int32} {x2 : Int32} {x3 : Int32} {M : Mem} {H : Heap} {locs : List Loc} {ls : Array Slot}, k66 x1 x2 x3 M = some (r, M1) → Rl E (sh_ b) (nn b) s.heap M H locs → lv_has ls 5 [(0, .ref (eB E + 47)), (1, .int x1), (2, .int x2), (3, .int x3)] → W p l e (rm 9 0 0) s m args below meth c H locs 0 0 (MQ below (qq E (some (.int r)) (sh_ b) (nn b) M1) args s 0 0 (fr E)) (F0 m 66 ls [])) : ∀ (n : Nat) {x1 : Int32} {x2 : Int32} {x3 : Int32} {x4 : Int32} {M : Mem} {H : Heap} {locs : List Loc} {ls : Array Slot}, fX11_join_30 k57 k66 n x1 x2 x3 x4 M = some (r, M1) → Rl E (sh_ b) (nn b) s.heap M H locs → lv_has ls 5 [(0, .ref (eB E + 47)), (1, .int x1), (2, .int x2), (3, .int x3), (4, .int x4)] → W p l e (rm 9 0 0) s m args below meth c H locs 0 0 (MQ below (qq E (some (.int r)) (sh_ b) (nn b) M1) args s 0 0 (fr E)) (F0 m 30 ls []) := by
  obtain ⟨hx, hb, hr, hml, hown, hts, hK, hN, hO, hlk, hbs⟩ := id X
  intro n
  induction n with
  | zero =>
    intro x1 x2 x3 x4 M H locs ls hf hR hl
    exact absurd (show none = some _ from hf) (fun h => by cases h)
  | succ n ih =>
    intro x1 x2 x3 x4 M H locs ls hf hR hl
    rw [fX11_join_30] at hf
    refine lv_iload hx hb dX11_join_30 (lv_at hl 4 rfl) ?_
    refine lv_iconst (v := 1) hx hb dX11_join_32 (by decide) ?_
    refine lv_iload_n hx hb dX11_join_33 rfl (lv_at hl 2 rfl) ?_
    refine lv_ishl hx hb dX11_join_34 ?_
    refine lv_icmp_ge (tgt := 66) hx hb dX11_join_35 (by decide) (fun q35 => ?_) (fun q35 => ?_)
    · have hf := (br_if hf).1 q35
      exact hk66 hf hR (lv_sub hl [0, 1, 2, 3] rfl)
    · have hf := (br_if hf).2 q35
      refine lv_iload hx hb dX11_join_38 (lv_at hl 4 rfl) ?_
      obtain ⟨q40, c40, hf⟩ := br_b hf
      refine x_callS (As := [.int x4]) (rest := []) (st1 := [.int q40]) X hR (ctJ6_bitCount_0f7a4 c40) ml_X11_387 st_J6_bitCount_0f7a4 in_J6 co_J6_bitCount_0f7a4 yo_J6_bitCount_0f7a4 (rm_ok (by decide) (by decide)) rfl hl.1 rfl rfl (Nat.le_of_ble_eq_true rfl) dX11_join_40 ⟨Nat.zero_le _, Nat.zero_le _⟩ (fun H locs hR => ?_)
      refine lv_iload_n hx hb dX11_join_43 rfl (lv_at hl 3 rfl) ?_
      refine lv_icmp_ne (tgt := 60) hx hb dX11_join_44 (by decide) (fun q44 => ?_) (fun q44 => ?_)
      · have hf := (br_if hf).2 q44
        exact wX11_join_60 X (fun hf hR hl => ih hf hR hl) (fun hf hR hl => hk57 hf hR hl) (fun hf hR hl => hk66 hf hR hl) hf hR hl
      · have hf := (br_if hf).1 q44
        refine lv_aload_n hx hb dX11_join_47 rfl (lv_at hl 0 rfl) ?_
        refine lv_iload hx hb dX11_join_48 (lv_at hl 4 rfl) ?_
        refine lv_iload_n hx hb dX11_join_50 rfl (lv_at hl 1 rfl) ?_
        obtain ⟨q51, c51, hf⟩ := br_b hf
        refine x_callV (k := 47) (As := [.int x4, .int x1]) (rest := []) (st1 := [.int q51.1]) X hR (ctX11_joins c51) ml_X11_407 im_X11_joins se_X11_joins in_X11 co_X11_joins yo_X11_joins rfl kX11 (z_47 b) (rm_ok (by decide) (by decide)) rfl hl.1 rfl rfl (Nat.le_of_ble_eq_true rfl) dX11_join_51 ⟨Nat.zero_le _, Nat.zero_le _⟩ (fun H locs hR => ?_)
        refine lv_if_eq (tgt := 60) hx hb dX11_join_54 (by decide) (fun q54 => ?_) (fun q54 => ?_)
        · have hf := (br_if hf).1 q54
          exact wX11_join_60 X (fun hf hR hl => ih hf hR hl) (fun hf hR hl => hk57 hf hR hl) (fun hf hR hl => hk66 hf hR hl) hf hR hl
        · have hf := (br_if hf).2 q54
          exact hk57 hf hR (lv_sub hl [4] rfl)
set_option maxHeartbeats 4000000 in
set_option maxRecDepth 100000 in
theorem wX11_join_66 {r : Int32} {M1 : Mem} {k22 : Int32 → Int32 → Int32 → Mem → Option (Int32 × Mem)} {k57 : Int32 → Mem → Option (Int32 × Mem)} {k72 : Mem → Option (Int32 × Mem)} (X : CX E p s m args c meth cX11_join 5 (some .int) RX11) (hk22 : ∀ {x1 : Int32} {x2 : Int32} {x3 : Int32} {M : Mem} {H : Heap} {locs : List Loc} {ls : Array Slot}, k22 x1 x2 x3 M = some (r, M1) → Rl E (sh_ b) (nn b) s.heap M H locs → lv_has ls 5 [(0, .ref (eB E + 47)), (1, .int x1), (2, .int x2), (3, .int x3)] → W p l e (rm 9 0 0) s m args below meth c H locs 0 0 (MQ below (qq E (some (.int r)) (sh_ b) (nn b) M1) args s 0 0 (fr E)) (F0 m 22 ls [])) (hk57 : ∀ {x4 : Int32} {M : Mem} {H : Heap} {locs : List Loc} {ls : Array Slot}, k57 x4 M = some (r, M1) → Rl E (sh_ b) (nn b) s.heap M H locs → lv_has ls 5 [(4, .int x4)] → W p l e (rm 9 0 0) s m args below meth c H locs 0 0 (MQ below (qq E (some (.int r)) (sh_ b) (nn b) M1) args s 0 0 (fr E)) (F0 m 57 ls [])) (hk72 : ∀ {M : Mem} {H : Heap} {locs : List Loc} {ls : Array Slot}, k72 M = some (r, M1) → Rl E (sh_ b) (nn b) s.heap M H locs → lv_has ls 5 [] → W p l e (rm 9 0 0) s m args below meth c H locs 0 0 (MQ below (qq E (some (.int r)) (sh_ b) (nn b) M1) args s 0 0 (fr E)) (F0 m 72 ls [])) : ∀ {x1 : Int32} {x2 : Int32} {x3 : Int32} {M : Mem} {H : Heap} {locs : List Loc} {ls : Array Slot}, fX11_join_66 k22 k57 k72 x1 x2 x3 M = some (r, M1) → Rl E (sh_ b) (nn b) s.heap M H locs → lv_has ls 5 [(0, .ref (eB E + 47)), (1, .int x1), (2, .int x2), (3, .int x3)] → W p l e (rm 9 0 0) s m args below meth c H locs 0 0 (MQ below (qq E (some (.int r)) (sh_ b) (nn b) M1) args s 0 0 (fr E)) (F0 m 66 ls []) := by
  obtain ⟨hx, hb, hr, hml, hown, hts, hK, hN, hO, hlk, hbs⟩ := id X
  intro x1 x2 x3 M H locs ls hf hR hl
  unfold fX11_join_66 at hf
  obtain ⟨v66, e66⟩ : ∃ y : Int32, y = (x3 + (1 : Int32)) := ⟨_, rfl⟩
  have hf := nx_at e66 hf
  refine lv_iinc (v := v66) (lv' := [(3, .int v66), (0, .ref (eB E + 47)), (1, .int x1), (2, .int x2)]) hx hb dX11_join_66 hl (k := 3) rfl (by rw [e66]; rfl) (by decide) rfl (fun ls hl => ?_)
  refine lv_goto (tgt := 22) hx hb dX11_join_69 (by decide) ?_
  exact hk22 hf hR (lv_sub hl [1, 2, 3, 0] rfl)
set_option maxHeartbeats 4000000 in
set_option maxRecDepth 100000 in
theorem wX11_join_22 {r : Int32} {M1 : Mem} {k57 : Int32 → Mem → Option (Int32 × Mem)} {k72 : Mem → Option (Int32 × Mem)} (X : CX E p s m args c meth cX11_join 5 (some .int) RX11) (hk57 : ∀ {x4 : Int32} {M : Mem} {H : Heap} {locs : List Loc} {ls : Array Slot}, k57 x4 M = some (r, M1) → Rl E (sh_ b) (nn b) s.heap M H locs → lv_has ls 5 [(4, .int x4)] → W p l e (rm 9 0 0) s m args below meth c H locs 0 0 (MQ below (qq E (some (.int r)) (sh_ b) (nn b) M1) args s 0 0 (fr E)) (F0 m 57 ls [])) (hk72 : ∀ {M : Mem} {H : Heap} {locs : List Loc} {ls : Array Slot}, k72 M = some (r, M1) → Rl E (sh_ b) (nn b) s.heap M H locs → lv_has ls 5 [] → W p l e (rm 9 0 0) s m args below meth c H locs 0 0 (MQ below (qq E (some (.int r)) (sh_ b) (nn b) M1) args s 0 0 (fr E)) (F0 m 72 ls [])) : ∀ (n : Nat) {x1 : Int32} {x2 : Int32} {x3 : Int32} {M : Mem} {H : Heap} {locs : List Loc} {ls : Array Slot}, fX11_join_22 k57 k72 n x1 x2 x3 M = some (r, M1) → Rl E (sh_ b) (nn b) s.heap M H locs → lv_has ls 5 [(0, .ref (eB E + 47)), (1, .int x1), (2, .int x2), (3, .int x3)] → W p l e (rm 9 0 0) s m args below meth c H locs 0 0 (MQ below (qq E (some (.int r)) (sh_ b) (nn b) M1) args s 0 0 (fr E)) (F0 m 22 ls []) := by
  obtain ⟨hx, hb, hr, hml, hown, hts, hK, hN, hO, hlk, hbs⟩ := id X
  intro n
  induction n with
  | zero =>
    intro x1 x2 x3 M H locs ls hf hR hl
    exact absurd (show none = some _ from hf) (fun h => by cases h)
  | succ n ih =>
    intro x1 x2 x3 M H locs ls hf hR hl
    rw [fX11_join_22] at hf
    refine lv_iload_n hx hb dX11_join_22 rfl (lv_at hl 3 rfl) ?_
    refine lv_iload_n hx hb dX11_join_23 rfl (lv_at hl 2 rfl) ?_
    refine lv_icmp_gt (tgt := 72) hx hb dX11_join_24 (by decide) (fun q24 => ?_) (fun q24 => ?_)
    · have hf := (br_if hf).1 q24
      exact hk72 hf hR (lv_sub hl [] rfl)
    · have hf := (br_if hf).2 q24
      refine lv_iconst (v := 0) hx hb dX11_join_27 (by decide) ?_
      refine lv_istore (lv' := [(4, .int (0 : Int32)), (0, .ref (eB E + 47)), (1, .int x1), (2, .int x2), (3, .int x3)]) hx hb dX11_join_28 hl (by decide) rfl (fun ls hl => ?_)
      exact wX11_join_30 X (fun hf hR hl => hk57 hf hR hl) (fun hf hR hl => wX11_join_66 X (fun hf hR hl => ih hf hR hl) (fun hf hR hl => hk57 hf hR hl) (fun hf hR hl => hk72 hf hR hl) hf hR hl) FU hf hR (lv_sub hl [1, 2, 3, 4, 0] rfl)
set_option maxHeartbeats 4000000 in
set_option maxRecDepth 100000 in
theorem wX11_join_57 {r : Int32} {M1 : Mem} (X : CX E p s m args c meth cX11_join 5 (some .int) RX11) : ∀ {x4 : Int32} {M : Mem} {H : Heap} {locs : List Loc} {ls : Array Slot}, fX11_join_57 x4 M = some (r, M1) → Rl E (sh_ b) (nn b) s.heap M H locs → lv_has ls 5 [(4, .int x4)] → W p l e (rm 9 0 0) s m args below meth c H locs 0 0 (MQ below (qq E (some (.int r)) (sh_ b) (nn b) M1) args s 0 0 (fr E)) (F0 m 57 ls []) := by
  obtain ⟨hx, hb, hr, hml, hown, hts, hK, hN, hO, hlk, hbs⟩ := id X
  intro x4 M H locs ls hf hR hl
  unfold fX11_join_57 at hf
  refine lv_iload hx hb dX11_join_57 (lv_at hl 0 rfl) ?_
  cases hf
  exact x_iret hx hb hr hlk hR dX11_join_59
set_option maxHeartbeats 4000000 in
set_option maxRecDepth 100000 in
theorem wX11_join_72 {r : Int32} {M1 : Mem} (X : CX E p s m args c meth cX11_join 5 (some .int) RX11) : ∀ {M : Mem} {H : Heap} {locs : List Loc} {ls : Array Slot}, fX11_join_72 M = some (r, M1) → Rl E (sh_ b) (nn b) s.heap M H locs → lv_has ls 5 [] → W p l e (rm 9 0 0) s m args below meth c H locs 0 0 (MQ below (qq E (some (.int r)) (sh_ b) (nn b) M1) args s 0 0 (fr E)) (F0 m 72 ls []) := by
  obtain ⟨hx, hb, hr, hml, hown, hts, hK, hN, hO, hlk, hbs⟩ := id X
  intro M H locs ls hf hR hl
  unfold fX11_join_72 at hf
  refine lv_iconst (v := -1) hx hb dX11_join_72 (by decide) ?_
  cases hf
  exact x_iret hx hb hr hlk hR dX11_join_73
set_option maxHeartbeats 4000000 in
set_option maxRecDepth 100000 in
theorem wX11_join_0 {r : Int32} {M1 : Mem} (X : CX E p s m args c meth cX11_join 5 (some .int) RX11) : ∀ {x1 : Int32} {M : Mem} {H : Heap} {locs : List Loc} {ls : Array Slot}, fX11_join x1 M = some (r, M1) → Rl E (sh_ b) (nn b) s.heap M H locs → lv_has ls 5 [(0, .ref (eB E + 47)), (1, .int x1)] → W p l e (rm 9 0 0) s m args below meth c H locs 0 0 (MQ below (qq E (some (.int r)) (sh_ b) (nn b) M1) args s 0 0 (fr E)) (F0 m 0 ls []) := by
  obtain ⟨hx, hb, hr, hml, hown, hts, hK, hN, hO, hlk, hbs⟩ := id X
  intro x1 M H locs ls hf hR hl
  unfold fX11_join at hf
  refine lv_aload_n hx hb dX11_join_0 rfl (lv_at hl 0 rfl) ?_
  refine lv_iload_n hx hb dX11_join_1 rfl (lv_at hl 1 rfl) ?_
  obtain ⟨q2, c2, hf⟩ := br_b hf
  refine x_callV (k := 47) (As := [.int x1]) (rest := []) (st1 := [.int q2]) X hR (ctX11_isPlace c2) ml_X11_248 im_X11_isPlace se_X11_isPlace in_X11 co_X11_isPlace yo_X11_isPlace rfl kX11 (z_47 b) (rm_ok (by decide) (by decide)) rfl hl.1 rfl rfl (Nat.le_of_ble_eq_true rfl) dX11_join_2 ⟨Nat.zero_le _, Nat.zero_le _⟩ (fun H locs hR => ?_)
  refine lv_if_ne (tgt := 10) hx hb dX11_join_5 (by decide) (fun q5 => ?_) (fun q5 => ?_)
  · have hf := (br_if hf).2 q5
    refine lv_bipush (v := 9) hx hb dX11_join_10 (by decide) ?_
    refine lv_aload_n hx hb dX11_join_12 rfl (lv_at hl 0 rfl) ?_
    obtain ⟨q13, c13, hf⟩ := br_b hf
    refine x_callV (k := 47) (As := []) (rest := [.int (9 : Int32)]) (st1 := [.int q13, .int (9 : Int32)]) X hR (ctX11_voters c13) ml_X11_237 im_X11_voters se_X11_voters in_X11 co_X11_voters yo_X11_voters rfl kX11 (z_47 b) (rm_ok (by decide) (by decide)) rfl hl.1 rfl rfl (Nat.le_of_ble_eq_true rfl) dX11_join_13 ⟨Nat.zero_le _, Nat.zero_le _⟩ (fun H locs hR => ?_)
    refine va_mmin hx hb (by rw [hml]; exact hl.1.symm) hown (hts _ ml_X11_198) (hts _ st_min) (hts _ in_J9) (hts _ co_min) (by decide) (Nat.le_of_ble_eq_true rfl) (Nat.zero_le _) (Nat.zero_le _) dX11_join_16 ?_
    refine W.eq (g2 := F0 m 19 ls [.int (imin (9 : Int32) q13)]) rfl ?_
    refine lv_topi (fun v19 e19 => ?_)
    have hf := nx_at e19 hf
    refine lv_istore_n (lv' := [(2, .int v19), (0, .ref (eB E + 47)), (1, .int x1)]) hx hb dX11_join_19 rfl hl (by decide) rfl (fun ls hl => ?_)
    refine lv_iconst (v := 0) hx hb dX11_join_20 (by decide) ?_
    refine lv_istore_n (lv' := [(3, .int (0 : Int32)), (2, .int v19), (0, .ref (eB E + 47)), (1, .int x1)]) hx hb dX11_join_21 rfl hl (by decide) rfl (fun ls hl => ?_)
    exact wX11_join_22 X (fun hf hR hl => wX11_join_57 X hf hR hl) (fun hf hR hl => wX11_join_72 X hf hR hl) FU hf hR (lv_sub hl [2, 3, 1, 0] rfl)
  · have hf := (br_if hf).1 q5
    refine lv_iconst (v := -1) hx hb dX11_join_8 (by decide) ?_
    cases hf
    exact x_iret hx hb hr hlk hR dX11_join_9
theorem ctX11_join {l : Launch} {E : Ge} {b : Bool} {M : Mem} {x1 : Int32} {r : Int32} {M1 : Mem} (h : fX11_join x1 M = some (r, M1)) : CT l E yX11_join cX11_join 5 (some .int) 9 0 0 [.ref (eB E + 47), .int x1] (some (.int r)) (sh_ b) (nn b) M (sh_ b) (nn b) M1 := by
  refine met_of (by decide) (Nat.le_of_ble_eq_true rfl) ?_
  intro p e s m args below meth c X _ hR ls hl
  exact wX11_join_0 X h hR hl
def fX11_through_133 (M : Mem) : Option Mem := some M
def fX11_through_76 (x1 : Int32) (x3 : Int32) (x4 : Int32) (x5 : Int32) (M : Mem) : Option Mem := (if ¬ x5 = 0 then nx (x3 / x5) (fun v80 => (if ¬ x5 = 0 then nx (x4 / x5) (fun v86 => (if inb x1 15 = true then (if inb x1 15 = true then nx ((v80 * (M.1 50 (ix x1))) + (v86 * (M.1 53 (ix x1)))) (fun v110 => (fX11_halves M v80 v86 v110).bind (fun q118 => (if q118 = 0 then fX11_through_133 M else (fX11_addsLine v80 v86 v110 M).bind (fun q130 => fX11_through_133 q130)))) else none) else none)) else none)) else none)
def fX11_through_71 (x1 : Int32) (x3 : Int32) (x4 : Int32) (x5 : Int32) (M : Mem) : Option Mem := nx (-x5) (fun v74 => fX11_through_76 x1 x3 x4 v74 M)
def fX11_through_47 (x1 : Int32) (x3 : Int32) (x4 : Int32) (M : Mem) : Option Mem := (fX11_gcd M (x3.toInt64) (x4.toInt64)).bind (fun q52 => nx (q52.toInt32) (fun v56 => (if x3 < 0 then fX11_through_71 x1 x3 x4 v56 M else (if x3 = 0 then (if 0 ≤ x4 then fX11_through_76 x1 x3 x4 v56 M else fX11_through_71 x1 x3 x4 v56 M) else fX11_through_76 x1 x3 x4 v56 M))))
def fX11_through (x1 : Int32) (x2 : Int32) (M : Mem) : Option Mem := (if inb x2 15 = true then (if inb x1 15 = true then nx ((M.1 53 (ix x2)) - (M.1 53 (ix x1))) (fun v17 => (if inb x1 15 = true then (if inb x2 15 = true then nx ((M.1 50 (ix x1)) - (M.1 50 (ix x2))) (fun v35 => (if v17 = 0 then (if v35 = 0 then some M else fX11_through_47 x1 v17 v35 M) else fX11_through_47 x1 v17 v35 M)) else none) else none)) else none) else none)
set_option maxHeartbeats 4000000 in
set_option maxRecDepth 100000 in
theorem wX11_through_133 {M1 : Mem} (X : CX E p s m args c meth cX11_through 7 none RX11) : ∀ {M : Mem} {H : Heap} {locs : List Loc} {ls : Array Slot}, fX11_through_133 M = some M1 → Rl E (sh_ b) (nn b) s.heap M H locs → lv_has ls 7 [] → W p l e (rm 4 0 0) s m args below meth c H locs 0 0 (MQ below (qq E none (sh_ b) (nn b) M1) args s 0 0 (fr E)) (F0 m 133 ls []) := by
  obtain ⟨hx, hb, hr, hml, hown, hts, hK, hN, hO, hlk, hbs⟩ := id X
  intro M H locs ls hf hR hl
  unfold fX11_through_133 at hf
  cases hf
  exact x_vret hx hb hr hlk hR dX11_through_133
set_option maxHeartbeats 4000000 in
set_option maxRecDepth 100000 in
theorem wX11_through_76 {M1 : Mem} (X : CX E p s m args c meth cX11_through 7 none RX11) : ∀ {x1 : Int32} {x3 : Int32} {x4 : Int32} {x5 : Int32} {M : Mem} {H : Heap} {locs : List Loc} {ls : Array Slot}, fX11_through_76 x1 x3 x4 x5 M = some M1 → Rl E (sh_ b) (nn b) s.heap M H locs → lv_has ls 7 [(0, .ref (eB E + 47)), (1, .int x1), (3, .int x3), (4, .int x4), (5, .int x5)] → W p l e (rm 4 0 0) s m args below meth c H locs 0 0 (MQ below (qq E none (sh_ b) (nn b) M1) args s 0 0 (fr E)) (F0 m 76 ls []) := by
  obtain ⟨hx, hb, hr, hml, hown, hts, hK, hN, hO, hlk, hbs⟩ := id X
  intro x1 x3 x4 x5 M H locs ls hf hR hl
  unfold fX11_through_76 at hf
  refine lv_iload_n hx hb dX11_through_76 rfl (lv_at hl 2 rfl) ?_
  refine lv_iload hx hb dX11_through_77 (lv_at hl 4 rfl) ?_
  obtain ⟨g79, hf⟩ := br_g hf
  refine lv_idiv hx hb dX11_through_79 g79 ?_
  refine lv_topi (fun v80 e80 => ?_)
  have hf := nx_at e80 hf
  refine lv_istore_n (lv' := [(3, .int v80), (0, .ref (eB E + 47)), (1, .int x1), (4, .int x4), (5, .int x5)]) hx hb dX11_through_80 rfl hl (by decide) rfl (fun ls hl => ?_)
  refine lv_iload hx hb dX11_through_81 (lv_at hl 3 rfl) ?_
  refine lv_iload hx hb dX11_through_83 (lv_at hl 4 rfl) ?_
  obtain ⟨g85, hf⟩ := br_g hf
  refine lv_idiv hx hb dX11_through_85 g85 ?_
  refine lv_topi (fun v86 e86 => ?_)
  have hf := nx_at e86 hf
  refine lv_istore (lv' := [(4, .int v86), (3, .int v80), (0, .ref (eB E + 47)), (1, .int x1), (5, .int x5)]) hx hb dX11_through_86 hl (by decide) rfl (fun ls hl => ?_)
  refine lv_iload_n hx hb dX11_through_88 rfl (lv_at hl 1 rfl) ?_
  refine lv_aload_n hx hb dX11_through_89 rfl (lv_at hl 2 rfl) ?_
  refine x_get hx hb hown hts hK hR kX11 (z_47 b) (j := 6) (by decide) fl_X11_15 (v := .ref (eB E + 49)) rfl dX11_through_90 ?_
  refine lv_iconst (v := 0) hx hb dX11_through_93 (by decide) ?_
  refine x_aald5 hx hb hK hR (z_49 b) (by decide) (r := 50) rfl dX11_through_94 ?_
  refine lv_iload_n hx hb dX11_through_95 rfl (lv_at hl 3 rfl) ?_
  obtain ⟨g96, hf⟩ := br_g hf
  refine x_iald hx hb hK hR (z_50 b) g96 dX11_through_96 ?_
  refine lv_imul hx hb dX11_through_97 ?_
  refine lv_iload hx hb dX11_through_98 (lv_at hl 0 rfl) ?_
  refine lv_aload_n hx hb dX11_through_100 rfl (lv_at hl 2 rfl) ?_
  refine x_get hx hb hown hts hK hR kX11 (z_47 b) (j := 7) (by decide) fl_X11_18 (v := .ref (eB E + 52)) rfl dX11_through_101 ?_
  refine lv_iconst (v := 0) hx hb dX11_through_104 (by decide) ?_
  refine x_aald5 hx hb hK hR (z_52 b) (by decide) (r := 53) rfl dX11_through_105 ?_
  refine lv_iload_n hx hb dX11_through_106 rfl (lv_at hl 3 rfl) ?_
  obtain ⟨g107, hf⟩ := br_g hf
  refine x_iald hx hb hK hR (z_53 b) g107 dX11_through_107 ?_
  refine lv_imul hx hb dX11_through_108 ?_
  refine lv_iadd hx hb dX11_through_109 ?_
  refine lv_topi (fun v110 e110 => ?_)
  have hf := nx_at e110 hf
  refine lv_istore (lv' := [(6, .int v110), (4, .int v86), (3, .int v80), (0, .ref (eB E + 47)), (1, .int x1), (5, .int x5)]) hx hb dX11_through_110 hl (by decide) rfl (fun ls hl => ?_)
  refine lv_aload_n hx hb dX11_through_112 rfl (lv_at hl 3 rfl) ?_
  refine lv_iload_n hx hb dX11_through_113 rfl (lv_at hl 2 rfl) ?_
  refine lv_iload hx hb dX11_through_114 (lv_at hl 1 rfl) ?_
  refine lv_iload hx hb dX11_through_116 (lv_at hl 0 rfl) ?_
  obtain ⟨q118, c118, hf⟩ := br_b hf
  refine x_callV (k := 47) (As := [.int v80, .int v86, .int v110]) (rest := []) (st1 := [.int q118]) X hR (ctX11_halves c118) ml_X11_298 im_X11_halves se_X11_halves in_X11 co_X11_halves yo_X11_halves rfl kX11 (z_47 b) (rm_ok (by decide) (by decide)) rfl hl.1 rfl rfl (Nat.le_of_ble_eq_true rfl) dX11_through_118 ⟨Nat.zero_le _, Nat.zero_le _⟩ (fun H locs hR => ?_)
  refine lv_if_eq (tgt := 133) hx hb dX11_through_121 (by decide) (fun q121 => ?_) (fun q121 => ?_)
  · have hf := (br_if hf).1 q121
    exact wX11_through_133 X hf hR (lv_sub hl [] rfl)
  · have hf := (br_if hf).2 q121
    refine lv_aload_n hx hb dX11_through_124 rfl (lv_at hl 3 rfl) ?_
    refine lv_iload_n hx hb dX11_through_125 rfl (lv_at hl 2 rfl) ?_
    refine lv_iload hx hb dX11_through_126 (lv_at hl 1 rfl) ?_
    refine lv_iload hx hb dX11_through_128 (lv_at hl 0 rfl) ?_
    obtain ⟨q130, c130, hf⟩ := br_b hf
    refine x_callV (k := 47) (As := [.int v80, .int v86, .int v110]) (rest := []) (st1 := []) X hR (ctX11_addsLine c130) ml_X11_302 im_X11_addsLine se_X11_addsLine in_X11 co_X11_addsLine yo_X11_addsLine rfl kX11 (z_47 b) (rm_ok (by decide) (by decide)) rfl hl.1 rfl rfl (Nat.le_of_ble_eq_true rfl) dX11_through_130 ⟨Nat.zero_le _, Nat.zero_le _⟩ (fun H locs hR => ?_)
    exact wX11_through_133 X hf hR (lv_sub hl [] rfl)
set_option maxHeartbeats 4000000 in
set_option maxRecDepth 100000 in
theorem wX11_through_71 {M1 : Mem} (X : CX E p s m args c meth cX11_through 7 none RX11) : ∀ {x1 : Int32} {x3 : Int32} {x4 : Int32} {x5 : Int32} {M : Mem} {H : Heap} {locs : List Loc} {ls : Array Slot}, fX11_through_71 x1 x3 x4 x5 M = some M1 → Rl E (sh_ b) (nn b) s.heap M H locs → lv_has ls 7 [(0, .ref (eB E + 47)), (1, .int x1), (3, .int x3), (4, .int x4), (5, .int x5)] → W p l e (rm 4 0 0) s m args below meth c H locs 0 0 (MQ below (qq E none (sh_ b) (nn b) M1) args s 0 0 (fr E)) (F0 m 71 ls []) := by
  obtain ⟨hx, hb, hr, hml, hown, hts, hK, hN, hO, hlk, hbs⟩ := id X
  intro x1 x3 x4 x5 M H locs ls hf hR hl
  unfold fX11_through_71 at hf
  refine lv_iload hx hb dX11_through_71 (lv_at hl 4 rfl) ?_
  refine lv_ineg hx hb dX11_through_73 ?_
  refine lv_topi (fun v74 e74 => ?_)
  have hf := nx_at e74 hf
  refine lv_istore (lv' := [(5, .int v74), (0, .ref (eB E + 47)), (1, .int x1), (3, .int x3), (4, .int x4)]) hx hb dX11_through_74 hl (by decide) rfl (fun ls hl => ?_)
  exact wX11_through_76 X hf hR (lv_sub hl [1, 2, 3, 4, 0] rfl)
set_option maxHeartbeats 4000000 in
set_option maxRecDepth 100000 in
theorem wX11_through_47 {M1 : Mem} (X : CX E p s m args c meth cX11_through 7 none RX11) : ∀ {x1 : Int32} {x3 : Int32} {x4 : Int32} {M : Mem} {H : Heap} {locs : List Loc} {ls : Array Slot}, fX11_through_47 x1 x3 x4 M = some M1 → Rl E (sh_ b) (nn b) s.heap M H locs → lv_has ls 7 [(0, .ref (eB E + 47)), (1, .int x1), (3, .int x3), (4, .int x4)] → W p l e (rm 4 0 0) s m args below meth c H locs 0 0 (MQ below (qq E none (sh_ b) (nn b) M1) args s 0 0 (fr E)) (F0 m 47 ls []) := by
  obtain ⟨hx, hb, hr, hml, hown, hts, hK, hN, hO, hlk, hbs⟩ := id X
  intro x1 x3 x4 M H locs ls hf hR hl
  unfold fX11_through_47 at hf
  refine lv_iload_n hx hb dX11_through_47 rfl (lv_at hl 2 rfl) ?_
  refine lv_i2l (v := x3.toInt64) hx hb dX11_through_48 rfl ?_
  refine lv_iload hx hb dX11_through_49 (lv_at hl 3 rfl) ?_
  refine lv_i2l (v := x4.toInt64) hx hb dX11_through_51 rfl ?_
  obtain ⟨q52, c52, hf⟩ := br_b hf
  refine x_callS (As := [.long x3.toInt64, .long x4.toInt64]) (rest := []) (st1 := [.long q52]) X hR (ctX11_gcd c52) ml_X11_294 st_X11_gcd in_X11 co_X11_gcd yo_X11_gcd (rm_ok (by decide) (by decide)) rfl hl.1 rfl rfl (Nat.le_of_ble_eq_true rfl) dX11_through_52 ⟨Nat.zero_le _, Nat.zero_le _⟩ (fun H locs hR => ?_)
  refine lv_l2i (v := q52.toInt32) hx hb dX11_through_55 rfl ?_
  refine lv_topi (fun v56 e56 => ?_)
  have hf := nx_at e56 hf
  refine lv_istore (lv' := [(5, .int v56), (0, .ref (eB E + 47)), (1, .int x1), (3, .int x3), (4, .int x4)]) hx hb dX11_through_56 hl (by decide) rfl (fun ls hl => ?_)
  refine lv_iload_n hx hb dX11_through_58 rfl (lv_at hl 3 rfl) ?_
  refine lv_if_lt (tgt := 71) hx hb dX11_through_59 (by decide) (fun q59 => ?_) (fun q59 => ?_)
  · have hf := (br_if hf).1 q59
    exact wX11_through_71 X hf hR (lv_sub hl [1, 2, 3, 4, 0] rfl)
  · have hf := (br_if hf).2 q59
    refine lv_iload_n hx hb dX11_through_62 rfl (lv_at hl 3 rfl) ?_
    refine lv_if_ne (tgt := 76) hx hb dX11_through_63 (by decide) (fun q63 => ?_) (fun q63 => ?_)
    · have hf := (br_if hf).2 q63
      exact wX11_through_76 X hf hR (lv_sub hl [1, 2, 3, 4, 0] rfl)
    · have hf := (br_if hf).1 q63
      refine lv_iload hx hb dX11_through_66 (lv_at hl 4 rfl) ?_
      refine lv_if_ge (tgt := 76) hx hb dX11_through_68 (by decide) (fun q68 => ?_) (fun q68 => ?_)
      · have hf := (br_if hf).1 q68
        exact wX11_through_76 X hf hR (lv_sub hl [1, 2, 3, 4, 0] rfl)
      · have hf := (br_if hf).2 q68
        exact wX11_through_71 X hf hR (lv_sub hl [1, 2, 3, 4, 0] rfl)
set_option maxHeartbeats 4000000 in
set_option maxRecDepth 100000 in
theorem wX11_through_0 {M1 : Mem} (X : CX E p s m args c meth cX11_through 7 none RX11) : ∀ {x1 : Int32} {x2 : Int32} {M : Mem} {H : Heap} {locs : List Loc} {ls : Array Slot}, fX11_through x1 x2 M = some M1 → Rl E (sh_ b) (nn b) s.heap M H locs → lv_has ls 7 [(0, .ref (eB E + 47)), (1, .int x1), (2, .int x2)] → W p l e (rm 4 0 0) s m args below meth c H locs 0 0 (MQ below (qq E none (sh_ b) (nn b) M1) args s 0 0 (fr E)) (F0 m 0 ls []) := by
  obtain ⟨hx, hb, hr, hml, hown, hts, hK, hN, hO, hlk, hbs⟩ := id X
  intro x1 x2 M H locs ls hf hR hl
  unfold fX11_through at hf
  refine lv_aload_n hx hb dX11_through_0 rfl (lv_at hl 0 rfl) ?_
  refine x_get hx hb hown hts hK hR kX11 (z_47 b) (j := 7) (by decide) fl_X11_18 (v := .ref (eB E + 52)) rfl dX11_through_1 ?_
  refine lv_iconst (v := 0) hx hb dX11_through_4 (by decide) ?_
  refine x_aald5 hx hb hK hR (z_52 b) (by decide) (r := 53) rfl dX11_through_5 ?_
  refine lv_iload_n hx hb dX11_through_6 rfl (lv_at hl 2 rfl) ?_
  obtain ⟨g7, hf⟩ := br_g hf
  refine x_iald hx hb hK hR (z_53 b) g7 dX11_through_7 ?_
  refine lv_aload_n hx hb dX11_through_8 rfl (lv_at hl 0 rfl) ?_
  refine x_get hx hb hown hts hK hR kX11 (z_47 b) (j := 7) (by decide) fl_X11_18 (v := .ref (eB E + 52)) rfl dX11_through_9 ?_
  refine lv_iconst (v := 0) hx hb dX11_through_12 (by decide) ?_
  refine x_aald5 hx hb hK hR (z_52 b) (by decide) (r := 53) rfl dX11_through_13 ?_
  refine lv_iload_n hx hb dX11_through_14 rfl (lv_at hl 1 rfl) ?_
  obtain ⟨g15, hf⟩ := br_g hf
  refine x_iald hx hb hK hR (z_53 b) g15 dX11_through_15 ?_
  refine lv_isub hx hb dX11_through_16 ?_
  refine lv_topi (fun v17 e17 => ?_)
  have hf := nx_at e17 hf
  refine lv_istore_n (lv' := [(3, .int v17), (0, .ref (eB E + 47)), (1, .int x1), (2, .int x2)]) hx hb dX11_through_17 rfl hl (by decide) rfl (fun ls hl => ?_)
  refine lv_aload_n hx hb dX11_through_18 rfl (lv_at hl 1 rfl) ?_
  refine x_get hx hb hown hts hK hR kX11 (z_47 b) (j := 6) (by decide) fl_X11_15 (v := .ref (eB E + 49)) rfl dX11_through_19 ?_
  refine lv_iconst (v := 0) hx hb dX11_through_22 (by decide) ?_
  refine x_aald5 hx hb hK hR (z_49 b) (by decide) (r := 50) rfl dX11_through_23 ?_
  refine lv_iload_n hx hb dX11_through_24 rfl (lv_at hl 2 rfl) ?_
  obtain ⟨g25, hf⟩ := br_g hf
  refine x_iald hx hb hK hR (z_50 b) g25 dX11_through_25 ?_
  refine lv_aload_n hx hb dX11_through_26 rfl (lv_at hl 1 rfl) ?_
  refine x_get hx hb hown hts hK hR kX11 (z_47 b) (j := 6) (by decide) fl_X11_15 (v := .ref (eB E + 49)) rfl dX11_through_27 ?_
  refine lv_iconst (v := 0) hx hb dX11_through_30 (by decide) ?_
  refine x_aald5 hx hb hK hR (z_49 b) (by decide) (r := 50) rfl dX11_through_31 ?_
  refine lv_iload_n hx hb dX11_through_32 rfl (lv_at hl 3 rfl) ?_
  obtain ⟨g33, hf⟩ := br_g hf
  refine x_iald hx hb hK hR (z_50 b) g33 dX11_through_33 ?_
  refine lv_isub hx hb dX11_through_34 ?_
  refine lv_topi (fun v35 e35 => ?_)
  have hf := nx_at e35 hf
  refine lv_istore (lv' := [(4, .int v35), (3, .int v17), (0, .ref (eB E + 47)), (1, .int x1), (2, .int x2)]) hx hb dX11_through_35 hl (by decide) rfl (fun ls hl => ?_)
  refine lv_iload_n hx hb dX11_through_37 rfl (lv_at hl 1 rfl) ?_
  refine lv_if_ne (tgt := 47) hx hb dX11_through_38 (by decide) (fun q38 => ?_) (fun q38 => ?_)
  · have hf := (br_if hf).2 q38
    exact wX11_through_47 X hf hR (lv_sub hl [2, 3, 1, 0] rfl)
  · have hf := (br_if hf).1 q38
    refine lv_iload hx hb dX11_through_41 (lv_at hl 0 rfl) ?_
    refine lv_if_ne (tgt := 47) hx hb dX11_through_43 (by decide) (fun q43 => ?_) (fun q43 => ?_)
    · have hf := (br_if hf).2 q43
      exact wX11_through_47 X hf hR (lv_sub hl [2, 3, 1, 0] rfl)
    · have hf := (br_if hf).1 q43
      cases hf
      exact x_vret hx hb hr hlk hR dX11_through_46
theorem ctX11_through {l : Launch} {E : Ge} {b : Bool} {M : Mem} {x1 : Int32} {x2 : Int32} {M1 : Mem} (h : fX11_through x1 x2 M = some M1) : CT l E yX11_through cX11_through 7 none 4 0 0 [.ref (eB E + 47), .int x1, .int x2] none (sh_ b) (nn b) M (sh_ b) (nn b) M1 := by
  refine met_of (by decide) (Nat.le_of_ble_eq_true rfl) ?_
  intro p e s m args below meth c X _ hR ls hl
  exact wX11_through_0 X h hR hl
def fX11_knows_30 (k47 : Int32 → Mem → Option Mem) : Nat → Int32 → Int32 → Mem → Option Mem
  | 0, _, _, _ => none
  | n + 1, x1, x2, M => (if x1 ≤ x2 then k47 x1 M else (fX11_through x1 x2 M).bind (fun q38 => nx (x2 + (1 : Int32)) (fun v41 => fX11_knows_30 k47 n x1 v41 q38)))
def fX11_knows_47 (k20 : Int32 → Mem → Option Mem) (k53 : Mem → Option Mem) (x1 : Int32) (M : Mem) : Option Mem := nx (x1 + (1 : Int32)) (fun v47 => k20 v47 M)
def fX11_knows_20 (k53 : Mem → Option Mem) : Nat → Int32 → Mem → Option Mem
  | 0, _, _ => none
  | n + 1, x1, M => (fX11_voters M).bind (fun q22 => (if q22 ≤ x1 then k53 M else fX11_knows_30 (fX11_knows_47 (fX11_knows_20 k53 n) k53) FU x1 (0 : Int32) M))
def fX11_knows_53 (M : Mem) : Option Mem := (fX11_findsMiddles M).bind (fun q54 => some q54)
def fX11_knows (M : Mem) : Option Mem := (if (M.1 47 29) = 0 then nx (sI M 47 29 (1 : Int32)) (fun M10 => nx (sI M10 47 27 (0 : Int32)) (fun M15 => fX11_knows_20 fX11_knows_53 FU (0 : Int32) M15)) else some M)
set_option maxHeartbeats 4000000 in
set_option maxRecDepth 100000 in
theorem wX11_knows_30 {M1 : Mem} {k47 : Int32 → Mem → Option Mem} (X : CX E p s m args c meth cX11_knows 3 none RX11) (hk47 : ∀ {x1 : Int32} {M : Mem} {H : Heap} {locs : List Loc} {ls : Array Slot}, k47 x1 M = some M1 → Rl E (sh_ b) (nn b) s.heap M H locs → lv_has ls 3 [(0, .ref (eB E + 47)), (1, .int x1)] → W p l e (rm 6 0 0) s m args below meth c H locs 0 0 (MQ below (qq E none (sh_ b) (nn b) M1) args s 0 0 (fr E)) (F0 m 47 ls [])) : ∀ (n : Nat) {x1 : Int32} {x2 : Int32} {M : Mem} {H : Heap} {locs : List Loc} {ls : Array Slot}, fX11_knows_30 k47 n x1 x2 M = some M1 → Rl E (sh_ b) (nn b) s.heap M H locs → lv_has ls 3 [(0, .ref (eB E + 47)), (1, .int x1), (2, .int x2)] → W p l e (rm 6 0 0) s m args below meth c H locs 0 0 (MQ below (qq E none (sh_ b) (nn b) M1) args s 0 0 (fr E)) (F0 m 30 ls []) := by
  obtain ⟨hx, hb, hr, hml, hown, hts, hK, hN, hO, hlk, hbs⟩ := id X
  intro n
  induction n with
  | zero =>
    intro x1 x2 M H locs ls hf hR hl
    exact absurd (show none = some _ from hf) (fun h => by cases h)
  | succ n ih =>
    intro x1 x2 M H locs ls hf hR hl
    rw [fX11_knows_30] at hf
    refine lv_iload_n hx hb dX11_knows_30 rfl (lv_at hl 2 rfl) ?_
    refine lv_iload_n hx hb dX11_knows_31 rfl (lv_at hl 1 rfl) ?_
    refine lv_icmp_ge (tgt := 47) hx hb dX11_knows_32 (by decide) (fun q32 => ?_) (fun q32 => ?_)
    · have hf := (br_if hf).1 q32
      exact hk47 hf hR (lv_sub hl [0, 1] rfl)
    · have hf := (br_if hf).2 q32
      refine lv_aload_n hx hb dX11_knows_35 rfl (lv_at hl 0 rfl) ?_
      refine lv_iload_n hx hb dX11_knows_36 rfl (lv_at hl 1 rfl) ?_
      refine lv_iload_n hx hb dX11_knows_37 rfl (lv_at hl 2 rfl) ?_
      obtain ⟨q38, c38, hf⟩ := br_b hf
      refine x_callV (k := 47) (As := [.int x1, .int x2]) (rest := []) (st1 := []) X hR (ctX11_through c38) ml_X11_306 im_X11_through se_X11_through in_X11 co_X11_through yo_X11_through rfl kX11 (z_47 b) (rm_ok (by decide) (by decide)) rfl hl.1 rfl rfl (Nat.le_of_ble_eq_true rfl) dX11_knows_38 ⟨Nat.zero_le _, Nat.zero_le _⟩ (fun H locs hR => ?_)
      obtain ⟨v41, e41⟩ : ∃ y : Int32, y = (x2 + (1 : Int32)) := ⟨_, rfl⟩
      have hf := nx_at e41 hf
      refine lv_iinc (v := v41) (lv' := [(2, .int v41), (0, .ref (eB E + 47)), (1, .int x1)]) hx hb dX11_knows_41 hl (k := 2) rfl (by rw [e41]; rfl) (by decide) rfl (fun ls hl => ?_)
      refine lv_goto (tgt := 30) hx hb dX11_knows_44 (by decide) ?_
      exact ih hf hR (lv_sub hl [1, 2, 0] rfl)
set_option maxHeartbeats 4000000 in
set_option maxRecDepth 100000 in
theorem wX11_knows_47 {M1 : Mem} {k20 : Int32 → Mem → Option Mem} {k53 : Mem → Option Mem} (X : CX E p s m args c meth cX11_knows 3 none RX11) (hk20 : ∀ {x1 : Int32} {M : Mem} {H : Heap} {locs : List Loc} {ls : Array Slot}, k20 x1 M = some M1 → Rl E (sh_ b) (nn b) s.heap M H locs → lv_has ls 3 [(0, .ref (eB E + 47)), (1, .int x1)] → W p l e (rm 6 0 0) s m args below meth c H locs 0 0 (MQ below (qq E none (sh_ b) (nn b) M1) args s 0 0 (fr E)) (F0 m 20 ls [])) (hk53 : ∀ {M : Mem} {H : Heap} {locs : List Loc} {ls : Array Slot}, k53 M = some M1 → Rl E (sh_ b) (nn b) s.heap M H locs → lv_has ls 3 [(0, .ref (eB E + 47))] → W p l e (rm 6 0 0) s m args below meth c H locs 0 0 (MQ below (qq E none (sh_ b) (nn b) M1) args s 0 0 (fr E)) (F0 m 53 ls [])) : ∀ {x1 : Int32} {M : Mem} {H : Heap} {locs : List Loc} {ls : Array Slot}, fX11_knows_47 k20 k53 x1 M = some M1 → Rl E (sh_ b) (nn b) s.heap M H locs → lv_has ls 3 [(0, .ref (eB E + 47)), (1, .int x1)] → W p l e (rm 6 0 0) s m args below meth c H locs 0 0 (MQ below (qq E none (sh_ b) (nn b) M1) args s 0 0 (fr E)) (F0 m 47 ls []) := by
  obtain ⟨hx, hb, hr, hml, hown, hts, hK, hN, hO, hlk, hbs⟩ := id X
  intro x1 M H locs ls hf hR hl
  unfold fX11_knows_47 at hf
  obtain ⟨v47, e47⟩ : ∃ y : Int32, y = (x1 + (1 : Int32)) := ⟨_, rfl⟩
  have hf := nx_at e47 hf
  refine lv_iinc (v := v47) (lv' := [(1, .int v47), (0, .ref (eB E + 47))]) hx hb dX11_knows_47 hl (k := 1) rfl (by rw [e47]; rfl) (by decide) rfl (fun ls hl => ?_)
  refine lv_goto (tgt := 20) hx hb dX11_knows_50 (by decide) ?_
  exact hk20 hf hR (lv_sub hl [1, 0] rfl)
set_option maxHeartbeats 4000000 in
set_option maxRecDepth 100000 in
theorem wX11_knows_20 {M1 : Mem} {k53 : Mem → Option Mem} (X : CX E p s m args c meth cX11_knows 3 none RX11) (hk53 : ∀ {M : Mem} {H : Heap} {locs : List Loc} {ls : Array Slot}, k53 M = some M1 → Rl E (sh_ b) (nn b) s.heap M H locs → lv_has ls 3 [(0, .ref (eB E + 47))] → W p l e (rm 6 0 0) s m args below meth c H locs 0 0 (MQ below (qq E none (sh_ b) (nn b) M1) args s 0 0 (fr E)) (F0 m 53 ls [])) : ∀ (n : Nat) {x1 : Int32} {M : Mem} {H : Heap} {locs : List Loc} {ls : Array Slot}, fX11_knows_20 k53 n x1 M = some M1 → Rl E (sh_ b) (nn b) s.heap M H locs → lv_has ls 3 [(0, .ref (eB E + 47)), (1, .int x1)] → W p l e (rm 6 0 0) s m args below meth c H locs 0 0 (MQ below (qq E none (sh_ b) (nn b) M1) args s 0 0 (fr E)) (F0 m 20 ls []) := by
  obtain ⟨hx, hb, hr, hml, hown, hts, hK, hN, hO, hlk, hbs⟩ := id X
  intro n
  induction n with
  | zero =>
    intro x1 M H locs ls hf hR hl
    exact absurd (show none = some _ from hf) (fun h => by cases h)
  | succ n ih =>
    intro x1 M H locs ls hf hR hl
    rw [fX11_knows_20] at hf
    refine lv_iload_n hx hb dX11_knows_20 rfl (lv_at hl 1 rfl) ?_
    refine lv_aload_n hx hb dX11_knows_21 rfl (lv_at hl 0 rfl) ?_
    obtain ⟨q22, c22, hf⟩ := br_b hf
    refine x_callV (k := 47) (As := []) (rest := [.int x1]) (st1 := [.int q22, .int x1]) X hR (ctX11_voters c22) ml_X11_237 im_X11_voters se_X11_voters in_X11 co_X11_voters yo_X11_voters rfl kX11 (z_47 b) (rm_ok (by decide) (by decide)) rfl hl.1 rfl rfl (Nat.le_of_ble_eq_true rfl) dX11_knows_22 ⟨Nat.zero_le _, Nat.zero_le _⟩ (fun H locs hR => ?_)
    refine lv_icmp_ge (tgt := 53) hx hb dX11_knows_25 (by decide) (fun q25 => ?_) (fun q25 => ?_)
    · have hf := (br_if hf).1 q25
      exact hk53 hf hR (lv_sub hl [0] rfl)
    · have hf := (br_if hf).2 q25
      refine lv_iconst (v := 0) hx hb dX11_knows_28 (by decide) ?_
      refine lv_istore_n (lv' := [(2, .int (0 : Int32)), (0, .ref (eB E + 47)), (1, .int x1)]) hx hb dX11_knows_29 rfl hl (by decide) rfl (fun ls hl => ?_)
      exact wX11_knows_30 X (fun hf hR hl => wX11_knows_47 X (fun hf hR hl => ih hf hR hl) (fun hf hR hl => hk53 hf hR hl) hf hR hl) FU hf hR (lv_sub hl [1, 2, 0] rfl)
set_option maxHeartbeats 4000000 in
set_option maxRecDepth 100000 in
theorem wX11_knows_53 {M1 : Mem} (X : CX E p s m args c meth cX11_knows 3 none RX11) : ∀ {M : Mem} {H : Heap} {locs : List Loc} {ls : Array Slot}, fX11_knows_53 M = some M1 → Rl E (sh_ b) (nn b) s.heap M H locs → lv_has ls 3 [(0, .ref (eB E + 47))] → W p l e (rm 6 0 0) s m args below meth c H locs 0 0 (MQ below (qq E none (sh_ b) (nn b) M1) args s 0 0 (fr E)) (F0 m 53 ls []) := by
  obtain ⟨hx, hb, hr, hml, hown, hts, hK, hN, hO, hlk, hbs⟩ := id X
  intro M H locs ls hf hR hl
  unfold fX11_knows_53 at hf
  refine lv_aload_n hx hb dX11_knows_53 rfl (lv_at hl 0 rfl) ?_
  obtain ⟨q54, c54, hf⟩ := br_b hf
  refine x_callV (k := 47) (As := []) (rest := []) (st1 := []) X hR (ctX11_findsMiddles c54) ml_X11_310 im_X11_findsMiddles se_X11_findsMiddles in_X11 co_X11_findsMiddles yo_X11_findsMiddles rfl kX11 (z_47 b) (rm_ok (by decide) (by decide)) rfl hl.1 rfl rfl (Nat.le_of_ble_eq_true rfl) dX11_knows_54 ⟨Nat.zero_le _, Nat.zero_le _⟩ (fun H locs hR => ?_)
  cases hf
  exact x_vret hx hb hr hlk hR dX11_knows_57
set_option maxHeartbeats 4000000 in
set_option maxRecDepth 100000 in
theorem wX11_knows_0 {M1 : Mem} (X : CX E p s m args c meth cX11_knows 3 none RX11) : ∀ {M : Mem} {H : Heap} {locs : List Loc} {ls : Array Slot}, fX11_knows M = some M1 → Rl E (sh_ b) (nn b) s.heap M H locs → lv_has ls 3 [(0, .ref (eB E + 47))] → W p l e (rm 6 0 0) s m args below meth c H locs 0 0 (MQ below (qq E none (sh_ b) (nn b) M1) args s 0 0 (fr E)) (F0 m 0 ls []) := by
  obtain ⟨hx, hb, hr, hml, hown, hts, hK, hN, hO, hlk, hbs⟩ := id X
  intro M H locs ls hf hR hl
  unfold fX11_knows at hf
  refine lv_aload_n hx hb dX11_knows_0 rfl (lv_at hl 0 rfl) ?_
  refine x_get hx hb hown hts hK hR kX11 (z_47 b) (j := 29) (by decide) fl_X11_234 (v := .int (M.1 47 29)) rfl dX11_knows_1 ?_
  refine lv_if_eq (tgt := 8) hx hb dX11_knows_4 (by decide) (fun q4 => ?_) (fun q4 => ?_)
  · have hf := (br_if hf).1 q4
    refine lv_aload_n hx hb dX11_knows_8 rfl (lv_at hl 0 rfl) ?_
    refine lv_iconst (v := 1) hx hb dX11_knows_9 (by decide) ?_
    refine x_puti hx hb hown hts hK hR kX11 (z_47 b) (j := 29) (by decide) fl_X11_234 rfl rfl rfl rfl dX11_knows_10 (fun H locs hR => ?_)
    obtain ⟨M10, e10⟩ : ∃ y : Mem, y = (sI M 47 29 (1 : Int32)) := ⟨_, rfl⟩
    have hf := nx_at e10 hf
    have hR : Rl E (sh_ b) (nn b) s.heap M10 H locs := by rw [e10]; exact hR
    refine lv_aload_n hx hb dX11_knows_13 rfl (lv_at hl 0 rfl) ?_
    refine lv_iconst (v := 0) hx hb dX11_knows_14 (by decide) ?_
    refine x_puti hx hb hown hts hK hR kX11 (z_47 b) (j := 27) (by decide) fl_X11_288 rfl rfl rfl rfl dX11_knows_15 (fun H locs hR => ?_)
    obtain ⟨M15, e15⟩ : ∃ y : Mem, y = (sI M10 47 27 (0 : Int32)) := ⟨_, rfl⟩
    have hf := nx_at e15 hf
    have hR : Rl E (sh_ b) (nn b) s.heap M15 H locs := by rw [e15]; exact hR
    refine lv_iconst (v := 0) hx hb dX11_knows_18 (by decide) ?_
    refine lv_istore_n (lv' := [(1, .int (0 : Int32)), (0, .ref (eB E + 47))]) hx hb dX11_knows_19 rfl hl (by decide) rfl (fun ls hl => ?_)
    exact wX11_knows_20 X (fun hf hR hl => wX11_knows_53 X hf hR hl) FU hf hR (lv_sub hl [1, 0] rfl)
  · have hf := (br_if hf).2 q4
    cases hf
    exact x_vret hx hb hr hlk hR dX11_knows_7
theorem ctX11_knows {l : Launch} {E : Ge} {b : Bool} {M : Mem} {M1 : Mem} (h : fX11_knows M = some M1) : CT l E yX11_knows cX11_knows 3 none 6 0 0 [.ref (eB E + 47)] none (sh_ b) (nn b) M (sh_ b) (nn b) M1 := by
  refine met_of (by decide) (Nat.le_of_ble_eq_true rfl) ?_
  intro p e s m args below meth c X _ hR ls hl
  exact wX11_knows_0 X h hR hl
def fX11_led_16 (M : Mem) : Option (Int32 × Mem) := some ((-1 : Int32), M)
def fX11_led_110 (k80 : Int32 → Int32 → Int32 → Int32 → Mem → Option (Int32 × Mem)) (k116 : Int32 → Int32 → Int32 → Mem → Option (Int32 × Mem)) (x3 : Int32) (x4 : Int32) (x5 : Int32) (x6 : Int32) (M : Mem) : Option (Int32 × Mem) := nx (x6 + (1 : Int32)) (fun v110 => k80 x3 x4 x5 v110 M)
def fX11_led_80 (k116 : Int32 → Int32 → Int32 → Mem → Option (Int32 × Mem)) : Nat → Int32 → Int32 → Int32 → Int32 → Mem → Option (Int32 × Mem)
  | 0, _, _, _, _, _ => none
  | n + 1, x3, x4, x5, x6, M => (if inb x6 20 = true then (if inb x4 20 = true then (if (M.1 87 (ix x6)) = ((M.1 87 (ix x4)) - (1 : Int32)) then (fX11_beatsOf M x6 x4).bind (fun q104 => (if q104 = 0 then fX11_led_110 (fX11_led_80 k116 n) k116 x3 x4 x5 x6 M else k116 x3 x5 x6 M)) else fX11_led_110 (fX11_led_80 k116 n) k116 x3 x4 x5 x6 M) else none) else none)
def fX11_led_116 (k71 : Int32 → Int32 → Int32 → Mem → Option (Int32 × Mem)) (k126 : Int32 → Mem → Option (Int32 × Mem)) (x3 : Int32) (x5 : Int32) (x6 : Int32) (M : Mem) : Option (Int32 × Mem) := nx (x5 + (1 : Int32)) (fun v120 => k71 x3 x6 v120 M)
def fX11_led_71 (k126 : Int32 → Mem → Option (Int32 × Mem)) : Nat → Int32 → Int32 → Int32 → Mem → Option (Int32 × Mem)
  | 0, _, _, _, _ => none
  | n + 1, x3, x4, x5, M => (if x3 ≤ x5 then k126 x4 M else fX11_led_80 (fX11_led_116 (fX11_led_71 k126 n) k126) FU x3 x4 x5 (0 : Int32) M)
def fX11_led_126 (x4 : Int32) (M : Mem) : Option (Int32 × Mem) := some (x4, M)
def fX11_led (x1 : Int32) (x2 : Int32) (x3 : Int32) (M : Mem) : Option (Int32 × Mem) := (fX11_isPlace M x1).bind (fun q2 => (if q2 = 0 then fX11_led_16 M else (fX11_isPlace M x2).bind (fun q10 => (if q10 = 0 then fX11_led_16 M else (fX11_leads x2 M).bind (fun q20 => (if inb x1 20 = true then (if (q20.1 87 (ix x1)) = (-1 : Int32) then some ((-1 : Int32), q20) else (if x3 = (-1 : Int32) then (if inb x1 20 = true then some ((q20.1 87 (ix x1)), q20) else none) else (if inb x1 20 = true then (fX11_in q20 (x3.toInt64) (0 : Int64) ((q20.1 87 (ix x1)).toInt64)).bind (fun q57 => (if q57 = 0 then some ((-1 : Int32), q20) else fX11_led_71 fX11_led_126 FU x3 x1 (0 : Int32) q20)) else none))) else none))))))
set_option maxHeartbeats 4000000 in
set_option maxRecDepth 100000 in
theorem wX11_led_16 {r : Int32} {M1 : Mem} (X : CX E p s m args c meth cX11_led 7 (some .int) RX11) : ∀ {M : Mem} {H : Heap} {locs : List Loc} {ls : Array Slot}, fX11_led_16 M = some (r, M1) → Rl E (sh_ b) (nn b) s.heap M H locs → lv_has ls 7 [] → W p l e (rm 8 0 0) s m args below meth c H locs 0 0 (MQ below (qq E (some (.int r)) (sh_ b) (nn b) M1) args s 0 0 (fr E)) (F0 m 16 ls []) := by
  obtain ⟨hx, hb, hr, hml, hown, hts, hK, hN, hO, hlk, hbs⟩ := id X
  intro M H locs ls hf hR hl
  unfold fX11_led_16 at hf
  refine lv_iconst (v := -1) hx hb dX11_led_16 (by decide) ?_
  cases hf
  exact x_iret hx hb hr hlk hR dX11_led_17
set_option maxHeartbeats 4000000 in
set_option maxRecDepth 100000 in
theorem wX11_led_110 {r : Int32} {M1 : Mem} {k80 : Int32 → Int32 → Int32 → Int32 → Mem → Option (Int32 × Mem)} {k116 : Int32 → Int32 → Int32 → Mem → Option (Int32 × Mem)} (X : CX E p s m args c meth cX11_led 7 (some .int) RX11) (hk80 : ∀ {x3 : Int32} {x4 : Int32} {x5 : Int32} {x6 : Int32} {M : Mem} {H : Heap} {locs : List Loc} {ls : Array Slot}, k80 x3 x4 x5 x6 M = some (r, M1) → Rl E (sh_ b) (nn b) s.heap M H locs → lv_has ls 7 [(0, .ref (eB E + 47)), (3, .int x3), (4, .int x4), (5, .int x5), (6, .int x6)] → W p l e (rm 8 0 0) s m args below meth c H locs 0 0 (MQ below (qq E (some (.int r)) (sh_ b) (nn b) M1) args s 0 0 (fr E)) (F0 m 80 ls [])) (hk116 : ∀ {x3 : Int32} {x5 : Int32} {x6 : Int32} {M : Mem} {H : Heap} {locs : List Loc} {ls : Array Slot}, k116 x3 x5 x6 M = some (r, M1) → Rl E (sh_ b) (nn b) s.heap M H locs → lv_has ls 7 [(0, .ref (eB E + 47)), (3, .int x3), (5, .int x5), (6, .int x6)] → W p l e (rm 8 0 0) s m args below meth c H locs 0 0 (MQ below (qq E (some (.int r)) (sh_ b) (nn b) M1) args s 0 0 (fr E)) (F0 m 116 ls [])) : ∀ {x3 : Int32} {x4 : Int32} {x5 : Int32} {x6 : Int32} {M : Mem} {H : Heap} {locs : List Loc} {ls : Array Slot}, fX11_led_110 k80 k116 x3 x4 x5 x6 M = some (r, M1) → Rl E (sh_ b) (nn b) s.heap M H locs → lv_has ls 7 [(0, .ref (eB E + 47)), (3, .int x3), (4, .int x4), (5, .int x5), (6, .int x6)] → W p l e (rm 8 0 0) s m args below meth c H locs 0 0 (MQ below (qq E (some (.int r)) (sh_ b) (nn b) M1) args s 0 0 (fr E)) (F0 m 110 ls []) := by
  obtain ⟨hx, hb, hr, hml, hown, hts, hK, hN, hO, hlk, hbs⟩ := id X
  intro x3 x4 x5 x6 M H locs ls hf hR hl
  unfold fX11_led_110 at hf
  obtain ⟨v110, e110⟩ : ∃ y : Int32, y = (x6 + (1 : Int32)) := ⟨_, rfl⟩
  have hf := nx_at e110 hf
  refine lv_iinc (v := v110) (lv' := [(6, .int v110), (0, .ref (eB E + 47)), (3, .int x3), (4, .int x4), (5, .int x5)]) hx hb dX11_led_110 hl (k := 4) rfl (by rw [e110]; rfl) (by decide) rfl (fun ls hl => ?_)
  refine lv_goto (tgt := 80) hx hb dX11_led_113 (by decide) ?_
  exact hk80 hf hR (lv_sub hl [1, 2, 3, 4, 0] rfl)
set_option maxHeartbeats 4000000 in
set_option maxRecDepth 100000 in
theorem wX11_led_80 {r : Int32} {M1 : Mem} {k116 : Int32 → Int32 → Int32 → Mem → Option (Int32 × Mem)} (X : CX E p s m args c meth cX11_led 7 (some .int) RX11) (hk116 : ∀ {x3 : Int32} {x5 : Int32} {x6 : Int32} {M : Mem} {H : Heap} {locs : List Loc} {ls : Array Slot}, k116 x3 x5 x6 M = some (r, M1) → Rl E (sh_ b) (nn b) s.heap M H locs → lv_has ls 7 [(0, .ref (eB E + 47)), (3, .int x3), (5, .int x5), (6, .int x6)] → W p l e (rm 8 0 0) s m args below meth c H locs 0 0 (MQ below (qq E (some (.int r)) (sh_ b) (nn b) M1) args s 0 0 (fr E)) (F0 m 116 ls [])) : ∀ (n : Nat) {x3 : Int32} {x4 : Int32} {x5 : Int32} {x6 : Int32} {M : Mem} {H : Heap} {locs : List Loc} {ls : Array Slot}, fX11_led_80 k116 n x3 x4 x5 x6 M = some (r, M1) → Rl E (sh_ b) (nn b) s.heap M H locs → lv_has ls 7 [(0, .ref (eB E + 47)), (3, .int x3), (4, .int x4), (5, .int x5), (6, .int x6)] → W p l e (rm 8 0 0) s m args below meth c H locs 0 0 (MQ below (qq E (some (.int r)) (sh_ b) (nn b) M1) args s 0 0 (fr E)) (F0 m 80 ls []) := by
  obtain ⟨hx, hb, hr, hml, hown, hts, hK, hN, hO, hlk, hbs⟩ := id X
  intro n
  induction n with
  | zero =>
    intro x3 x4 x5 x6 M H locs ls hf hR hl
    exact absurd (show none = some _ from hf) (fun h => by cases h)
  | succ n ih =>
    intro x3 x4 x5 x6 M H locs ls hf hR hl
    rw [fX11_led_80] at hf
    refine lv_aload_n hx hb dX11_led_80 rfl (lv_at hl 0 rfl) ?_
    refine x_get hx hb hown hts hK hR kX11 (z_47 b) (j := 39) (by decide) fl_X11_94 (v := .ref (eB E + 87)) rfl dX11_led_81 ?_
    refine lv_iload hx hb dX11_led_84 (lv_at hl 4 rfl) ?_
    obtain ⟨g86, hf⟩ := br_g hf
    refine x_iald hx hb hK hR (z_87 b) g86 dX11_led_86 ?_
    refine lv_aload_n hx hb dX11_led_87 rfl (lv_at hl 0 rfl) ?_
    refine x_get hx hb hown hts hK hR kX11 (z_47 b) (j := 39) (by decide) fl_X11_94 (v := .ref (eB E + 87)) rfl dX11_led_88 ?_
    refine lv_iload hx hb dX11_led_91 (lv_at hl 2 rfl) ?_
    obtain ⟨g93, hf⟩ := br_g hf
    refine x_iald hx hb hK hR (z_87 b) g93 dX11_led_93 ?_
    refine lv_iconst (v := 1) hx hb dX11_led_94 (by decide) ?_
    refine lv_isub hx hb dX11_led_95 ?_
    refine lv_icmp_ne (tgt := 110) hx hb dX11_led_96 (by decide) (fun q96 => ?_) (fun q96 => ?_)
    · have hf := (br_if hf).2 q96
      exact wX11_led_110 X (fun hf hR hl => ih hf hR hl) (fun hf hR hl => hk116 hf hR hl) hf hR hl
    · have hf := (br_if hf).1 q96
      refine lv_aload_n hx hb dX11_led_99 rfl (lv_at hl 0 rfl) ?_
      refine lv_iload hx hb dX11_led_100 (lv_at hl 4 rfl) ?_
      refine lv_iload hx hb dX11_led_102 (lv_at hl 2 rfl) ?_
      obtain ⟨q104, c104, hf⟩ := br_b hf
      refine x_callV (k := 47) (As := [.int x6, .int x4]) (rest := []) (st1 := [.int q104]) X hR (ctX11_beatsOf c104) ml_X11_283 im_X11_beatsOf se_X11_beatsOf in_X11 co_X11_beatsOf yo_X11_beatsOf rfl kX11 (z_47 b) (rm_ok (by decide) (by decide)) rfl hl.1 rfl rfl (Nat.le_of_ble_eq_true rfl) dX11_led_104 ⟨Nat.zero_le _, Nat.zero_le _⟩ (fun H locs hR => ?_)
      refine lv_if_ne (tgt := 116) hx hb dX11_led_107 (by decide) (fun q107 => ?_) (fun q107 => ?_)
      · have hf := (br_if hf).2 q107
        exact hk116 hf hR (lv_sub hl [0, 1, 3, 4] rfl)
      · have hf := (br_if hf).1 q107
        exact wX11_led_110 X (fun hf hR hl => ih hf hR hl) (fun hf hR hl => hk116 hf hR hl) hf hR hl
set_option maxHeartbeats 4000000 in
set_option maxRecDepth 100000 in
theorem wX11_led_116 {r : Int32} {M1 : Mem} {k71 : Int32 → Int32 → Int32 → Mem → Option (Int32 × Mem)} {k126 : Int32 → Mem → Option (Int32 × Mem)} (X : CX E p s m args c meth cX11_led 7 (some .int) RX11) (hk71 : ∀ {x3 : Int32} {x4 : Int32} {x5 : Int32} {M : Mem} {H : Heap} {locs : List Loc} {ls : Array Slot}, k71 x3 x4 x5 M = some (r, M1) → Rl E (sh_ b) (nn b) s.heap M H locs → lv_has ls 7 [(0, .ref (eB E + 47)), (3, .int x3), (4, .int x4), (5, .int x5)] → W p l e (rm 8 0 0) s m args below meth c H locs 0 0 (MQ below (qq E (some (.int r)) (sh_ b) (nn b) M1) args s 0 0 (fr E)) (F0 m 71 ls [])) (hk126 : ∀ {x4 : Int32} {M : Mem} {H : Heap} {locs : List Loc} {ls : Array Slot}, k126 x4 M = some (r, M1) → Rl E (sh_ b) (nn b) s.heap M H locs → lv_has ls 7 [(4, .int x4)] → W p l e (rm 8 0 0) s m args below meth c H locs 0 0 (MQ below (qq E (some (.int r)) (sh_ b) (nn b) M1) args s 0 0 (fr E)) (F0 m 126 ls [])) : ∀ {x3 : Int32} {x5 : Int32} {x6 : Int32} {M : Mem} {H : Heap} {locs : List Loc} {ls : Array Slot}, fX11_led_116 k71 k126 x3 x5 x6 M = some (r, M1) → Rl E (sh_ b) (nn b) s.heap M H locs → lv_has ls 7 [(0, .ref (eB E + 47)), (3, .int x3), (5, .int x5), (6, .int x6)] → W p l e (rm 8 0 0) s m args below meth c H locs 0 0 (MQ below (qq E (some (.int r)) (sh_ b) (nn b) M1) args s 0 0 (fr E)) (F0 m 116 ls []) := by
  obtain ⟨hx, hb, hr, hml, hown, hts, hK, hN, hO, hlk, hbs⟩ := id X
  intro x3 x5 x6 M H locs ls hf hR hl
  unfold fX11_led_116 at hf
  refine lv_iload hx hb dX11_led_116 (lv_at hl 3 rfl) ?_
  refine lv_istore (lv' := [(4, .int x6), (0, .ref (eB E + 47)), (3, .int x3), (5, .int x5), (6, .int x6)]) hx hb dX11_led_118 hl (by decide) rfl (fun ls hl => ?_)
  obtain ⟨v120, e120⟩ : ∃ y : Int32, y = (x5 + (1 : Int32)) := ⟨_, rfl⟩
  have hf := nx_at e120 hf
  refine lv_iinc (v := v120) (lv' := [(5, .int v120), (4, .int x6), (0, .ref (eB E + 47)), (3, .int x3), (6, .int x6)]) hx hb dX11_led_120 hl (k := 3) rfl (by rw [e120]; rfl) (by decide) rfl (fun ls hl => ?_)
  refine lv_goto (tgt := 71) hx hb dX11_led_123 (by decide) ?_
  exact hk71 hf hR (lv_sub hl [2, 3, 1, 0] rfl)
set_option maxHeartbeats 4000000 in
set_option maxRecDepth 100000 in
theorem wX11_led_71 {r : Int32} {M1 : Mem} {k126 : Int32 → Mem → Option (Int32 × Mem)} (X : CX E p s m args c meth cX11_led 7 (some .int) RX11) (hk126 : ∀ {x4 : Int32} {M : Mem} {H : Heap} {locs : List Loc} {ls : Array Slot}, k126 x4 M = some (r, M1) → Rl E (sh_ b) (nn b) s.heap M H locs → lv_has ls 7 [(4, .int x4)] → W p l e (rm 8 0 0) s m args below meth c H locs 0 0 (MQ below (qq E (some (.int r)) (sh_ b) (nn b) M1) args s 0 0 (fr E)) (F0 m 126 ls [])) : ∀ (n : Nat) {x3 : Int32} {x4 : Int32} {x5 : Int32} {M : Mem} {H : Heap} {locs : List Loc} {ls : Array Slot}, fX11_led_71 k126 n x3 x4 x5 M = some (r, M1) → Rl E (sh_ b) (nn b) s.heap M H locs → lv_has ls 7 [(0, .ref (eB E + 47)), (3, .int x3), (4, .int x4), (5, .int x5)] → W p l e (rm 8 0 0) s m args below meth c H locs 0 0 (MQ below (qq E (some (.int r)) (sh_ b) (nn b) M1) args s 0 0 (fr E)) (F0 m 71 ls []) := by
  obtain ⟨hx, hb, hr, hml, hown, hts, hK, hN, hO, hlk, hbs⟩ := id X
  intro n
  induction n with
  | zero =>
    intro x3 x4 x5 M H locs ls hf hR hl
    exact absurd (show none = some _ from hf) (fun h => by cases h)
  | succ n ih =>
    intro x3 x4 x5 M H locs ls hf hR hl
    rw [fX11_led_71] at hf
    refine lv_iload hx hb dX11_led_71 (lv_at hl 3 rfl) ?_
    refine lv_iload_n hx hb dX11_led_73 rfl (lv_at hl 1 rfl) ?_
    refine lv_icmp_ge (tgt := 126) hx hb dX11_led_74 (by decide) (fun q74 => ?_) (fun q74 => ?_)
    · have hf := (br_if hf).1 q74
      exact hk126 hf hR (lv_sub hl [2] rfl)
    · have hf := (br_if hf).2 q74
      refine lv_iconst (v := 0) hx hb dX11_led_77 (by decide) ?_
      refine lv_istore (lv' := [(6, .int (0 : Int32)), (0, .ref (eB E + 47)), (3, .int x3), (4, .int x4), (5, .int x5)]) hx hb dX11_led_78 hl (by decide) rfl (fun ls hl => ?_)
      exact wX11_led_80 X (fun hf hR hl => wX11_led_116 X (fun hf hR hl => ih hf hR hl) (fun hf hR hl => hk126 hf hR hl) hf hR hl) FU hf hR (lv_sub hl [1, 2, 3, 4, 0] rfl)
set_option maxHeartbeats 4000000 in
set_option maxRecDepth 100000 in
theorem wX11_led_126 {r : Int32} {M1 : Mem} (X : CX E p s m args c meth cX11_led 7 (some .int) RX11) : ∀ {x4 : Int32} {M : Mem} {H : Heap} {locs : List Loc} {ls : Array Slot}, fX11_led_126 x4 M = some (r, M1) → Rl E (sh_ b) (nn b) s.heap M H locs → lv_has ls 7 [(4, .int x4)] → W p l e (rm 8 0 0) s m args below meth c H locs 0 0 (MQ below (qq E (some (.int r)) (sh_ b) (nn b) M1) args s 0 0 (fr E)) (F0 m 126 ls []) := by
  obtain ⟨hx, hb, hr, hml, hown, hts, hK, hN, hO, hlk, hbs⟩ := id X
  intro x4 M H locs ls hf hR hl
  unfold fX11_led_126 at hf
  refine lv_iload hx hb dX11_led_126 (lv_at hl 0 rfl) ?_
  cases hf
  exact x_iret hx hb hr hlk hR dX11_led_128
set_option maxHeartbeats 4000000 in
set_option maxRecDepth 100000 in
theorem wX11_led_0 {r : Int32} {M1 : Mem} (X : CX E p s m args c meth cX11_led 7 (some .int) RX11) : ∀ {x1 : Int32} {x2 : Int32} {x3 : Int32} {M : Mem} {H : Heap} {locs : List Loc} {ls : Array Slot}, fX11_led x1 x2 x3 M = some (r, M1) → Rl E (sh_ b) (nn b) s.heap M H locs → lv_has ls 7 [(0, .ref (eB E + 47)), (1, .int x1), (2, .int x2), (3, .int x3)] → W p l e (rm 8 0 0) s m args below meth c H locs 0 0 (MQ below (qq E (some (.int r)) (sh_ b) (nn b) M1) args s 0 0 (fr E)) (F0 m 0 ls []) := by
  obtain ⟨hx, hb, hr, hml, hown, hts, hK, hN, hO, hlk, hbs⟩ := id X
  intro x1 x2 x3 M H locs ls hf hR hl
  unfold fX11_led at hf
  refine lv_aload_n hx hb dX11_led_0 rfl (lv_at hl 0 rfl) ?_
  refine lv_iload_n hx hb dX11_led_1 rfl (lv_at hl 1 rfl) ?_
  obtain ⟨q2, c2, hf⟩ := br_b hf
  refine x_callV (k := 47) (As := [.int x1]) (rest := []) (st1 := [.int q2]) X hR (ctX11_isPlace c2) ml_X11_248 im_X11_isPlace se_X11_isPlace in_X11 co_X11_isPlace yo_X11_isPlace rfl kX11 (z_47 b) (rm_ok (by decide) (by decide)) rfl hl.1 rfl rfl (Nat.le_of_ble_eq_true rfl) dX11_led_2 ⟨Nat.zero_le _, Nat.zero_le _⟩ (fun H locs hR => ?_)
  refine lv_if_eq (tgt := 16) hx hb dX11_led_5 (by decide) (fun q5 => ?_) (fun q5 => ?_)
  · have hf := (br_if hf).1 q5
    exact wX11_led_16 X hf hR (lv_sub hl [] rfl)
  · have hf := (br_if hf).2 q5
    refine lv_aload_n hx hb dX11_led_8 rfl (lv_at hl 0 rfl) ?_
    refine lv_iload_n hx hb dX11_led_9 rfl (lv_at hl 2 rfl) ?_
    obtain ⟨q10, c10, hf⟩ := br_b hf
    refine x_callV (k := 47) (As := [.int x2]) (rest := []) (st1 := [.int q10]) X hR (ctX11_isPlace c10) ml_X11_248 im_X11_isPlace se_X11_isPlace in_X11 co_X11_isPlace yo_X11_isPlace rfl kX11 (z_47 b) (rm_ok (by decide) (by decide)) rfl hl.1 rfl rfl (Nat.le_of_ble_eq_true rfl) dX11_led_10 ⟨Nat.zero_le _, Nat.zero_le _⟩ (fun H locs hR => ?_)
    refine lv_if_ne (tgt := 18) hx hb dX11_led_13 (by decide) (fun q13 => ?_) (fun q13 => ?_)
    · have hf := (br_if hf).2 q13
      refine lv_aload_n hx hb dX11_led_18 rfl (lv_at hl 0 rfl) ?_
      refine lv_iload_n hx hb dX11_led_19 rfl (lv_at hl 2 rfl) ?_
      obtain ⟨q20, c20, hf⟩ := br_b hf
      refine x_callV (k := 47) (As := [.int x2]) (rest := []) (st1 := []) X hR (ctX11_leads c20) ml_X11_360 im_X11_leads se_X11_leads in_X11 co_X11_leads yo_X11_leads rfl kX11 (z_47 b) (rm_ok (by decide) (by decide)) rfl hl.1 rfl rfl (Nat.le_of_ble_eq_true rfl) dX11_led_20 ⟨Nat.zero_le _, Nat.zero_le _⟩ (fun H locs hR => ?_)
      refine lv_aload_n hx hb dX11_led_23 rfl (lv_at hl 0 rfl) ?_
      refine x_get hx hb hown hts hK hR kX11 (z_47 b) (j := 39) (by decide) fl_X11_94 (v := .ref (eB E + 87)) rfl dX11_led_24 ?_
      refine lv_iload_n hx hb dX11_led_27 rfl (lv_at hl 1 rfl) ?_
      obtain ⟨g28, hf⟩ := br_g hf
      refine x_iald hx hb hK hR (z_87 b) g28 dX11_led_28 ?_
      refine lv_iconst (v := -1) hx hb dX11_led_29 (by decide) ?_
      refine lv_icmp_ne (tgt := 35) hx hb dX11_led_30 (by decide) (fun q30 => ?_) (fun q30 => ?_)
      · have hf := (br_if hf).2 q30
        refine lv_iload_n hx hb dX11_led_35 rfl (lv_at hl 3 rfl) ?_
        refine lv_iconst (v := -1) hx hb dX11_led_36 (by decide) ?_
        refine lv_icmp_ne (tgt := 47) hx hb dX11_led_37 (by decide) (fun q37 => ?_) (fun q37 => ?_)
        · have hf := (br_if hf).2 q37
          refine lv_iload_n hx hb dX11_led_47 rfl (lv_at hl 3 rfl) ?_
          refine lv_i2l (v := x3.toInt64) hx hb dX11_led_48 rfl ?_
          refine lv_lconst (v := 0) hx hb dX11_led_49 (by decide) ?_
          refine lv_aload_n hx hb dX11_led_50 rfl (lv_at hl 0 rfl) ?_
          refine x_get hx hb hown hts hK hR kX11 (z_47 b) (j := 39) (by decide) fl_X11_94 (v := .ref (eB E + 87)) rfl dX11_led_51 ?_
          refine lv_iload_n hx hb dX11_led_54 rfl (lv_at hl 1 rfl) ?_
          obtain ⟨g55, hf⟩ := br_g hf
          refine x_iald hx hb hK hR (z_87 b) g55 dX11_led_55 ?_
          refine lv_i2l (v := (q20.1 87 (ix x1)).toInt64) hx hb dX11_led_56 rfl ?_
          obtain ⟨q57, c57, hf⟩ := br_b hf
          refine x_callS (As := [.long x3.toInt64, .long (0 : Int64), .long (q20.1 87 (ix x1)).toInt64]) (rest := []) (st1 := [.int q57]) X hR (ctX11_in c57) ml_X11_122 st_X11_in in_X11 co_X11_in yo_X11_in (rm_ok (by decide) (by decide)) rfl hl.1 rfl rfl (Nat.le_of_ble_eq_true rfl) dX11_led_57 ⟨Nat.zero_le _, Nat.zero_le _⟩ (fun H locs hR => ?_)
          refine lv_if_ne (tgt := 65) hx hb dX11_led_60 (by decide) (fun q60 => ?_) (fun q60 => ?_)
          · have hf := (br_if hf).2 q60
            refine lv_iload_n hx hb dX11_led_65 rfl (lv_at hl 1 rfl) ?_
            refine lv_istore (lv' := [(4, .int x1), (0, .ref (eB E + 47)), (1, .int x1), (2, .int x2), (3, .int x3)]) hx hb dX11_led_66 hl (by decide) rfl (fun ls hl => ?_)
            refine lv_iconst (v := 0) hx hb dX11_led_68 (by decide) ?_
            refine lv_istore (lv' := [(5, .int (0 : Int32)), (4, .int x1), (0, .ref (eB E + 47)), (1, .int x1), (2, .int x2), (3, .int x3)]) hx hb dX11_led_69 hl (by decide) rfl (fun ls hl => ?_)
            exact wX11_led_71 X (fun hf hR hl => wX11_led_126 X hf hR hl) FU hf hR (lv_sub hl [2, 5, 1, 0] rfl)
          · have hf := (br_if hf).1 q60
            refine lv_iconst (v := -1) hx hb dX11_led_63 (by decide) ?_
            cases hf
            exact x_iret hx hb hr hlk hR dX11_led_64
        · have hf := (br_if hf).1 q37
          refine lv_aload_n hx hb dX11_led_40 rfl (lv_at hl 0 rfl) ?_
          refine x_get hx hb hown hts hK hR kX11 (z_47 b) (j := 39) (by decide) fl_X11_94 (v := .ref (eB E + 87)) rfl dX11_led_41 ?_
          refine lv_iload_n hx hb dX11_led_44 rfl (lv_at hl 1 rfl) ?_
          obtain ⟨g45, hf⟩ := br_g hf
          refine x_iald hx hb hK hR (z_87 b) g45 dX11_led_45 ?_
          cases hf
          exact x_iret hx hb hr hlk hR dX11_led_46
      · have hf := (br_if hf).1 q30
        refine lv_iconst (v := -1) hx hb dX11_led_33 (by decide) ?_
        cases hf
        exact x_iret hx hb hr hlk hR dX11_led_34
    · have hf := (br_if hf).1 q13
      exact wX11_led_16 X hf hR (lv_sub hl [] rfl)
theorem ctX11_led {l : Launch} {E : Ge} {b : Bool} {M : Mem} {x1 : Int32} {x2 : Int32} {x3 : Int32} {r : Int32} {M1 : Mem} (h : fX11_led x1 x2 x3 M = some (r, M1)) : CT l E yX11_led cX11_led 7 (some .int) 8 0 0 [.ref (eB E + 47), .int x1, .int x2, .int x3] (some (.int r)) (sh_ b) (nn b) M (sh_ b) (nn b) M1 := by
  refine met_of (by decide) (Nat.le_of_ble_eq_true rfl) ?_
  intro p e s m args below meth c X _ hR ls hl
  exact wX11_led_0 X h hR hl
def fX11_line (x1 : Int32) (x2 : Int32) (M : Mem) : Option (Int32 × Mem) := (fX11_knows M).bind (fun q1 => (if x1 = (-1 : Int32) then some ((q1.1 47 27), q1) else (fX11_in q1 (x1.toInt64) (0 : Int64) (((q1.1 47 27) - (1 : Int32)).toInt64)).bind (fun q24 => (if q24 = 0 then some ((-2147483648 : Int32), q1) else (if x2 = (0 : Int32) then (if inb x1 105 = true then some ((q1.1 79 (ix x1)), q1) else none) else (if x2 = (1 : Int32) then (if inb x1 105 = true then some ((q1.1 80 (ix x1)), q1) else none) else (if x2 = (2 : Int32) then (if inb x1 105 = true then some ((q1.1 81 (ix x1)), q1) else none) else some ((-2147483648 : Int32), q1))))))))
set_option maxHeartbeats 4000000 in
set_option maxRecDepth 100000 in
theorem wX11_line_0 {r : Int32} {M1 : Mem} (X : CX E p s m args c meth cX11_line 3 (some .int) RX11) : ∀ {x1 : Int32} {x2 : Int32} {M : Mem} {H : Heap} {locs : List Loc} {ls : Array Slot}, fX11_line x1 x2 M = some (r, M1) → Rl E (sh_ b) (nn b) s.heap M H locs → lv_has ls 3 [(0, .ref (eB E + 47)), (1, .int x1), (2, .int x2)] → W p l e (rm 7 0 0) s m args below meth c H locs 0 0 (MQ below (qq E (some (.int r)) (sh_ b) (nn b) M1) args s 0 0 (fr E)) (F0 m 0 ls []) := by
  obtain ⟨hx, hb, hr, hml, hown, hts, hK, hN, hO, hlk, hbs⟩ := id X
  intro x1 x2 M H locs ls hf hR hl
  unfold fX11_line at hf
  refine lv_aload_n hx hb dX11_line_0 rfl (lv_at hl 0 rfl) ?_
  obtain ⟨q1, c1, hf⟩ := br_b hf
  refine x_callV (k := 47) (As := []) (rest := []) (st1 := []) X hR (ctX11_knows c1) ml_X11_313 im_X11_knows se_X11_knows in_X11 co_X11_knows yo_X11_knows rfl kX11 (z_47 b) (rm_ok (by decide) (by decide)) rfl hl.1 rfl rfl (Nat.le_of_ble_eq_true rfl) dX11_line_1 ⟨Nat.zero_le _, Nat.zero_le _⟩ (fun H locs hR => ?_)
  refine lv_iload_n hx hb dX11_line_4 rfl (lv_at hl 1 rfl) ?_
  refine lv_iconst (v := -1) hx hb dX11_line_5 (by decide) ?_
  refine lv_icmp_ne (tgt := 14) hx hb dX11_line_6 (by decide) (fun q6 => ?_) (fun q6 => ?_)
  · have hf := (br_if hf).2 q6
    refine lv_iload_n hx hb dX11_line_14 rfl (lv_at hl 1 rfl) ?_
    refine lv_i2l (v := x1.toInt64) hx hb dX11_line_15 rfl ?_
    refine lv_lconst (v := 0) hx hb dX11_line_16 (by decide) ?_
    refine lv_aload_n hx hb dX11_line_17 rfl (lv_at hl 0 rfl) ?_
    refine x_get hx hb hown hts hK hR kX11 (z_47 b) (j := 27) (by decide) fl_X11_288 (v := .int (q1.1 47 27)) rfl dX11_line_18 ?_
    refine lv_iconst (v := 1) hx hb dX11_line_21 (by decide) ?_
    refine lv_isub hx hb dX11_line_22 ?_
    refine lv_i2l (v := ((q1.1 47 27) - (1 : Int32)).toInt64) hx hb dX11_line_23 rfl ?_
    obtain ⟨q24, c24, hf⟩ := br_b hf
    refine x_callS (As := [.long x1.toInt64, .long (0 : Int64), .long ((q1.1 47 27) - (1 : Int32)).toInt64]) (rest := []) (st1 := [.int q24]) X hR (ctX11_in c24) ml_X11_122 st_X11_in in_X11 co_X11_in yo_X11_in (rm_ok (by decide) (by decide)) rfl hl.1 rfl rfl (Nat.le_of_ble_eq_true rfl) dX11_line_24 ⟨Nat.zero_le _, Nat.zero_le _⟩ (fun H locs hR => ?_)
    refine lv_if_ne (tgt := 34) hx hb dX11_line_27 (by decide) (fun q27 => ?_) (fun q27 => ?_)
    · have hf := (br_if hf).2 q27
      refine lv_iload_n hx hb dX11_line_34 rfl (lv_at hl 2 rfl) ?_
      by_cases q35_0 : x2 = (0 : Int32)
      · have hf := (br_if hf).1 q35_0
        refine x_tsw (v := 0) (tgt := 60) hx hb dX11_line_35 q35_0 (by decide) (by decide) (off := 25) (by decide) (by decide) ?_
        refine lv_aload_n hx hb dX11_line_60 rfl (lv_at hl 0 rfl) ?_
        refine x_get hx hb hown hts hK hR kX11 (z_47 b) (j := 24) (by decide) fl_X11_69 (v := .ref (eB E + 79)) rfl dX11_line_61 ?_
        refine lv_iload_n hx hb dX11_line_64 rfl (lv_at hl 1 rfl) ?_
        obtain ⟨g65, hf⟩ := br_g hf
        refine x_iald hx hb hK hR (z_79 b) g65 dX11_line_65 ?_
        cases hf
        exact x_iret hx hb hr hlk hR dX11_line_66
      · have hf := (br_if hf).2 q35_0
        by_cases q35_1 : x2 = (1 : Int32)
        · have hf := (br_if hf).1 q35_1
          refine x_tsw (v := 1) (tgt := 67) hx hb dX11_line_35 q35_1 (by decide) (by decide) (off := 32) (by decide) (by decide) ?_
          refine lv_aload_n hx hb dX11_line_67 rfl (lv_at hl 0 rfl) ?_
          refine x_get hx hb hown hts hK hR kX11 (z_47 b) (j := 25) (by decide) fl_X11_72 (v := .ref (eB E + 80)) rfl dX11_line_68 ?_
          refine lv_iload_n hx hb dX11_line_71 rfl (lv_at hl 1 rfl) ?_
          obtain ⟨g72, hf⟩ := br_g hf
          refine x_iald hx hb hK hR (z_80 b) g72 dX11_line_72 ?_
          cases hf
          exact x_iret hx hb hr hlk hR dX11_line_73
        · have hf := (br_if hf).2 q35_1
          by_cases q35_2 : x2 = (2 : Int32)
          · have hf := (br_if hf).1 q35_2
            refine x_tsw (v := 2) (tgt := 74) hx hb dX11_line_35 q35_2 (by decide) (by decide) (off := 39) (by decide) (by decide) ?_
            refine lv_aload_n hx hb dX11_line_74 rfl (lv_at hl 0 rfl) ?_
            refine x_get hx hb hown hts hK hR kX11 (z_47 b) (j := 26) (by decide) fl_X11_75 (v := .ref (eB E + 81)) rfl dX11_line_75 ?_
            refine lv_iload_n hx hb dX11_line_78 rfl (lv_at hl 1 rfl) ?_
            obtain ⟨g79, hf⟩ := br_g hf
            refine x_iald hx hb hK hR (z_81 b) g79 dX11_line_79 ?_
            cases hf
            exact x_iret hx hb hr hlk hR dX11_line_80
          · have hf := (br_if hf).2 q35_2
            refine lv_tableOut (tgt := 81) hx hb dX11_line_35 (by have a0 := lv_neT q35_0 (show (0 : Int32).toInt = 0 from rfl); have a1 := lv_neT q35_1 (show (1 : Int32).toInt = 1 from rfl); have a2 := lv_neT q35_2 (show (2 : Int32).toInt = 2 from rfl); omega) (by decide) ?_
            refine lv_ldcw hx hb hown (hts _ ki_X11_316) dX11_line_81 ?_
            cases hf
            exact x_iret hx hb hr hlk hR dX11_line_84
    · have hf := (br_if hf).1 q27
      refine lv_ldcw hx hb hown (hts _ ki_X11_316) dX11_line_30 ?_
      cases hf
      exact x_iret hx hb hr hlk hR dX11_line_33
  · have hf := (br_if hf).1 q6
    refine lv_aload_n hx hb dX11_line_9 rfl (lv_at hl 0 rfl) ?_
    refine x_get hx hb hown hts hK hR kX11 (z_47 b) (j := 27) (by decide) fl_X11_288 (v := .int (q1.1 47 27)) rfl dX11_line_10 ?_
    cases hf
    exact x_iret hx hb hr hlk hR dX11_line_13
theorem ctX11_line {l : Launch} {E : Ge} {b : Bool} {M : Mem} {x1 : Int32} {x2 : Int32} {r : Int32} {M1 : Mem} (h : fX11_line x1 x2 M = some (r, M1)) : CT l E yX11_line cX11_line 3 (some .int) 7 0 0 [.ref (eB E + 47), .int x1, .int x2] (some (.int r)) (sh_ b) (nn b) M (sh_ b) (nn b) M1 := by
  refine met_of (by decide) (Nat.le_of_ble_eq_true rfl) ?_
  intro p e s m args below meth c X _ hR ls hl
  exact wX11_line_0 X h hR hl
def fX11_lot_25 (M : Mem) : Option (Int32 × Mem) := some ((-1 : Int32), M)
def fX11_lot_32 (k55 : Int32 → Int64 → Mem → Option (Int32 × Mem)) : Nat → Int32 → Int64 → Int32 → Mem → Option (Int32 × Mem)
  | 0, _, _, _, _ => none
  | n + 1, x1, y2, x4, M => (if (8 : Int32) ≤ x4 then k55 x1 y2 M else (if inb x4 8 = true then nx (y2 + (M.2 97 (ix x4))) (fun v48 => nx (x4 + (1 : Int32)) (fun v49 => fX11_lot_32 k55 n x1 v48 v49 M)) else none))
def fX11_lot_70 (t0 : Int64) (M : Mem) : Option (Int32 × Mem) := some (t0.toInt32, M)
def fX11_lot_55 (x1 : Int32) (y2 : Int64) (M : Mem) : Option (Int32 × Mem) := (if x1 = (-1 : Int32) then fX11_lot_70 y2 M else (if inb x1 8 = true then fX11_lot_70 ((M.2 97 (ix x1))) M else none))
def fX11_lot (x1 : Int32) (M : Mem) : Option (Int32 × Mem) := (fX11_chosen M).bind (fun q6 => (fX11_in M (x1.toInt64) (-1 : Int64) ((q6 - (1 : Int32)).toInt64)).bind (fun q12 => (if q12 = 0 then fX11_lot_25 M else (fX11_findsLots M).bind (fun q19 => (if q19.1 = 0 then fX11_lot_25 (q19.2) else fX11_lot_32 fX11_lot_55 FU x1 (0 : Int64) (0 : Int32) (q19.2))))))
set_option maxHeartbeats 4000000 in
set_option maxRecDepth 100000 in
theorem wX11_lot_25 {r : Int32} {M1 : Mem} (X : CX E p s m args c meth cX11_lot 5 (some .int) RX11) : ∀ {M : Mem} {H : Heap} {locs : List Loc} {ls : Array Slot}, fX11_lot_25 M = some (r, M1) → Rl E (sh_ b) (nn b) s.heap M H locs → lv_has ls 5 [] → W p l e (rm 23 0 0) s m args below meth c H locs 0 0 (MQ below (qq E (some (.int r)) (sh_ b) (nn b) M1) args s 0 0 (fr E)) (F0 m 25 ls []) := by
  obtain ⟨hx, hb, hr, hml, hown, hts, hK, hN, hO, hlk, hbs⟩ := id X
  intro M H locs ls hf hR hl
  unfold fX11_lot_25 at hf
  refine lv_iconst (v := -1) hx hb dX11_lot_25 (by decide) ?_
  cases hf
  exact x_iret hx hb hr hlk hR dX11_lot_26
set_option maxHeartbeats 4000000 in
set_option maxRecDepth 100000 in
theorem wX11_lot_32 {r : Int32} {M1 : Mem} {k55 : Int32 → Int64 → Mem → Option (Int32 × Mem)} (X : CX E p s m args c meth cX11_lot 5 (some .int) RX11) (hk55 : ∀ {x1 : Int32} {y2 : Int64} {M : Mem} {H : Heap} {locs : List Loc} {ls : Array Slot}, k55 x1 y2 M = some (r, M1) → Rl E (sh_ b) (nn b) s.heap M H locs → lv_has ls 5 [(0, .ref (eB E + 47)), (1, .int x1), (2, .long y2)] → W p l e (rm 23 0 0) s m args below meth c H locs 0 0 (MQ below (qq E (some (.int r)) (sh_ b) (nn b) M1) args s 0 0 (fr E)) (F0 m 55 ls [])) : ∀ (n : Nat) {x1 : Int32} {y2 : Int64} {x4 : Int32} {M : Mem} {H : Heap} {locs : List Loc} {ls : Array Slot}, fX11_lot_32 k55 n x1 y2 x4 M = some (r, M1) → Rl E (sh_ b) (nn b) s.heap M H locs → lv_has ls 5 [(0, .ref (eB E + 47)), (1, .int x1), (2, .long y2), (4, .int x4)] → W p l e (rm 23 0 0) s m args below meth c H locs 0 0 (MQ below (qq E (some (.int r)) (sh_ b) (nn b) M1) args s 0 0 (fr E)) (F0 m 32 ls []) := by
  obtain ⟨hx, hb, hr, hml, hown, hts, hK, hN, hO, hlk, hbs⟩ := id X
  intro n
  induction n with
  | zero =>
    intro x1 y2 x4 M H locs ls hf hR hl
    exact absurd (show none = some _ from hf) (fun h => by cases h)
  | succ n ih =>
    intro x1 y2 x4 M H locs ls hf hR hl
    rw [fX11_lot_32] at hf
    refine lv_iload hx hb dX11_lot_32 (lv_at hl 3 rfl) ?_
    refine lv_bipush (v := 8) hx hb dX11_lot_34 (by decide) ?_
    refine lv_icmp_ge (tgt := 55) hx hb dX11_lot_36 (by decide) (fun q36 => ?_) (fun q36 => ?_)
    · have hf := (br_if hf).1 q36
      exact hk55 hf hR (lv_sub hl [0, 1, 2] rfl)
    · have hf := (br_if hf).2 q36
      refine lv_lload_n hx hb dX11_lot_39 rfl (lv_at hl 2 rfl) ?_
      refine lv_aload_n hx hb dX11_lot_40 rfl (lv_at hl 0 rfl) ?_
      refine x_get hx hb hown hts hK hR kX11 (z_47 b) (j := 41) (by decide) fl_X11_102 (v := .ref (eB E + 97)) rfl dX11_lot_41 ?_
      refine lv_iload hx hb dX11_lot_44 (lv_at hl 3 rfl) ?_
      obtain ⟨g46, hf⟩ := br_g hf
      refine x_lald hx hb hK hR (z_97 b) g46 dX11_lot_46 ?_
      refine lv_ladd hx hb dX11_lot_47 ?_
      refine lv_topl (fun v48 e48 => ?_)
      have hf := nx_at e48 hf
      refine lv_lstore_n (lv' := [(2, .long v48), (0, .ref (eB E + 47)), (1, .int x1), (4, .int x4)]) hx hb dX11_lot_48 rfl hl (by decide) rfl (fun ls hl => ?_)
      obtain ⟨v49, e49⟩ : ∃ y : Int32, y = (x4 + (1 : Int32)) := ⟨_, rfl⟩
      have hf := nx_at e49 hf
      refine lv_iinc (v := v49) (lv' := [(4, .int v49), (2, .long v48), (0, .ref (eB E + 47)), (1, .int x1)]) hx hb dX11_lot_49 hl (k := 3) rfl (by rw [e49]; rfl) (by decide) rfl (fun ls hl => ?_)
      refine lv_goto (tgt := 32) hx hb dX11_lot_52 (by decide) ?_
      exact ih hf hR (lv_sub hl [2, 3, 1, 0] rfl)
set_option maxHeartbeats 4000000 in
set_option maxRecDepth 100000 in
theorem wX11_lot_70 {r : Int32} {M1 : Mem} (X : CX E p s m args c meth cX11_lot 5 (some .int) RX11) : ∀ {t0 : Int64} {M : Mem} {H : Heap} {locs : List Loc} {ls : Array Slot}, fX11_lot_70 t0 M = some (r, M1) → Rl E (sh_ b) (nn b) s.heap M H locs → lv_has ls 5 [] → W p l e (rm 23 0 0) s m args below meth c H locs 0 0 (MQ below (qq E (some (.int r)) (sh_ b) (nn b) M1) args s 0 0 (fr E)) (F0 m 70 ls [.long t0]) := by
  obtain ⟨hx, hb, hr, hml, hown, hts, hK, hN, hO, hlk, hbs⟩ := id X
  intro t0 M H locs ls hf hR hl
  unfold fX11_lot_70 at hf
  refine lv_l2i (v := t0.toInt32) hx hb dX11_lot_70 rfl ?_
  cases hf
  exact x_iret hx hb hr hlk hR dX11_lot_71
set_option maxHeartbeats 4000000 in
set_option maxRecDepth 100000 in
theorem wX11_lot_55 {r : Int32} {M1 : Mem} (X : CX E p s m args c meth cX11_lot 5 (some .int) RX11) : ∀ {x1 : Int32} {y2 : Int64} {M : Mem} {H : Heap} {locs : List Loc} {ls : Array Slot}, fX11_lot_55 x1 y2 M = some (r, M1) → Rl E (sh_ b) (nn b) s.heap M H locs → lv_has ls 5 [(0, .ref (eB E + 47)), (1, .int x1), (2, .long y2)] → W p l e (rm 23 0 0) s m args below meth c H locs 0 0 (MQ below (qq E (some (.int r)) (sh_ b) (nn b) M1) args s 0 0 (fr E)) (F0 m 55 ls []) := by
  obtain ⟨hx, hb, hr, hml, hown, hts, hK, hN, hO, hlk, hbs⟩ := id X
  intro x1 y2 M H locs ls hf hR hl
  unfold fX11_lot_55 at hf
  refine lv_iload_n hx hb dX11_lot_55 rfl (lv_at hl 1 rfl) ?_
  refine lv_iconst (v := -1) hx hb dX11_lot_56 (by decide) ?_
  refine lv_icmp_ne (tgt := 64) hx hb dX11_lot_57 (by decide) (fun q57 => ?_) (fun q57 => ?_)
  · have hf := (br_if hf).2 q57
    refine lv_aload_n hx hb dX11_lot_64 rfl (lv_at hl 0 rfl) ?_
    refine x_get hx hb hown hts hK hR kX11 (z_47 b) (j := 41) (by decide) fl_X11_102 (v := .ref (eB E + 97)) rfl dX11_lot_65 ?_
    refine lv_iload_n hx hb dX11_lot_68 rfl (lv_at hl 1 rfl) ?_
    obtain ⟨g69, hf⟩ := br_g hf
    refine x_lald hx hb hK hR (z_97 b) g69 dX11_lot_69 ?_
    exact wX11_lot_70 X hf hR (lv_sub hl [] rfl)
  · have hf := (br_if hf).1 q57
    refine lv_lload_n hx hb dX11_lot_60 rfl (lv_at hl 2 rfl) ?_
    refine lv_goto (tgt := 70) hx hb dX11_lot_61 (by decide) ?_
    exact wX11_lot_70 X hf hR (lv_sub hl [] rfl)
set_option maxHeartbeats 4000000 in
set_option maxRecDepth 100000 in
theorem wX11_lot_0 {r : Int32} {M1 : Mem} (X : CX E p s m args c meth cX11_lot 5 (some .int) RX11) : ∀ {x1 : Int32} {M : Mem} {H : Heap} {locs : List Loc} {ls : Array Slot}, fX11_lot x1 M = some (r, M1) → Rl E (sh_ b) (nn b) s.heap M H locs → lv_has ls 5 [(0, .ref (eB E + 47)), (1, .int x1)] → W p l e (rm 23 0 0) s m args below meth c H locs 0 0 (MQ below (qq E (some (.int r)) (sh_ b) (nn b) M1) args s 0 0 (fr E)) (F0 m 0 ls []) := by
  obtain ⟨hx, hb, hr, hml, hown, hts, hK, hN, hO, hlk, hbs⟩ := id X
  intro x1 M H locs ls hf hR hl
  unfold fX11_lot at hf
  refine lv_iload_n hx hb dX11_lot_0 rfl (lv_at hl 1 rfl) ?_
  refine lv_i2l (v := x1.toInt64) hx hb dX11_lot_1 rfl ?_
  refine lv_ldc2 hx hb hown (hts _ kl_X11_393) dX11_lot_2 ?_
  refine lv_aload_n hx hb dX11_lot_5 rfl (lv_at hl 0 rfl) ?_
  obtain ⟨q6, c6, hf⟩ := br_b hf
  refine x_callV (k := 47) (As := []) (rest := [.long (-1 : Int64), .long x1.toInt64]) (st1 := [.int q6, .long (-1 : Int64), .long x1.toInt64]) X hR (ctX11_chosen c6) ml_X11_372 im_X11_chosen se_X11_chosen in_X11 co_X11_chosen yo_X11_chosen rfl kX11 (z_47 b) (rm_ok (by decide) (by decide)) rfl hl.1 rfl rfl (Nat.le_of_ble_eq_true rfl) dX11_lot_6 ⟨Nat.zero_le _, Nat.zero_le _⟩ (fun H locs hR => ?_)
  refine lv_iconst (v := 1) hx hb dX11_lot_9 (by decide) ?_
  refine lv_isub hx hb dX11_lot_10 ?_
  refine lv_i2l (v := (q6 - (1 : Int32)).toInt64) hx hb dX11_lot_11 rfl ?_
  obtain ⟨q12, c12, hf⟩ := br_b hf
  refine x_callS (As := [.long x1.toInt64, .long (-1 : Int64), .long (q6 - (1 : Int32)).toInt64]) (rest := []) (st1 := [.int q12]) X hR (ctX11_in c12) ml_X11_122 st_X11_in in_X11 co_X11_in yo_X11_in (rm_ok (by decide) (by decide)) rfl hl.1 rfl rfl (Nat.le_of_ble_eq_true rfl) dX11_lot_12 ⟨Nat.zero_le _, Nat.zero_le _⟩ (fun H locs hR => ?_)
  refine lv_if_eq (tgt := 25) hx hb dX11_lot_15 (by decide) (fun q15 => ?_) (fun q15 => ?_)
  · have hf := (br_if hf).1 q15
    exact wX11_lot_25 X hf hR (lv_sub hl [] rfl)
  · have hf := (br_if hf).2 q15
    refine lv_aload_n hx hb dX11_lot_18 rfl (lv_at hl 0 rfl) ?_
    obtain ⟨q19, c19, hf⟩ := br_b hf
    refine x_callV (k := 47) (As := []) (rest := []) (st1 := [.int q19.1]) X hR (ctX11_findsLots c19) ml_X11_395 im_X11_findsLots se_X11_findsLots in_X11 co_X11_findsLots yo_X11_findsLots rfl kX11 (z_47 b) (rm_ok (by decide) (by decide)) rfl hl.1 rfl rfl (Nat.le_of_ble_eq_true rfl) dX11_lot_19 ⟨Nat.zero_le _, Nat.zero_le _⟩ (fun H locs hR => ?_)
    refine lv_if_ne (tgt := 27) hx hb dX11_lot_22 (by decide) (fun q22 => ?_) (fun q22 => ?_)
    · have hf := (br_if hf).2 q22
      refine lv_lconst (v := 0) hx hb dX11_lot_27 (by decide) ?_
      refine lv_lstore_n (lv' := [(2, .long (0 : Int64)), (0, .ref (eB E + 47)), (1, .int x1)]) hx hb dX11_lot_28 rfl hl (by decide) rfl (fun ls hl => ?_)
      refine lv_iconst (v := 0) hx hb dX11_lot_29 (by decide) ?_
      refine lv_istore (lv' := [(4, .int (0 : Int32)), (2, .long (0 : Int64)), (0, .ref (eB E + 47)), (1, .int x1)]) hx hb dX11_lot_30 hl (by decide) rfl (fun ls hl => ?_)
      exact wX11_lot_32 X (fun hf hR hl => wX11_lot_55 X hf hR hl) FU hf hR (lv_sub hl [2, 3, 1, 0] rfl)
    · have hf := (br_if hf).1 q22
      exact wX11_lot_25 X hf hR (lv_sub hl [] rfl)
theorem ctX11_lot {l : Launch} {E : Ge} {b : Bool} {M : Mem} {x1 : Int32} {r : Int32} {M1 : Mem} (h : fX11_lot x1 M = some (r, M1)) : CT l E yX11_lot cX11_lot 5 (some .int) 23 0 0 [.ref (eB E + 47), .int x1] (some (.int r)) (sh_ b) (nn b) M (sh_ b) (nn b) M1 := by
  refine met_of (by decide) (Nat.le_of_ble_eq_true rfl) ?_
  intro p e s m args below meth c X _ hR ls hl
  exact wX11_lot_0 X h hR hl
def fX11_peace_2 (M : Mem) (k18 : Int32 → Option Int32) (k26 : Option Int32) : Nat → Int32 → Option Int32
  | 0, _ => none
  | n + 1, x1 => (fX11_places M).bind (fun q4 => (if q4 ≤ x1 then k26 else (fX11_isUnbeaten M x1).bind (fun q12 => (if q12 = 0 then nx (x1 + (1 : Int32)) (fun v20 => fX11_peace_2 M k18 k26 n v20) else k18 x1))))
def fX11_peace_18 (M : Mem) (x1 : Int32) : Option Int32 := some x1
def fX11_peace_26 (M : Mem) : Option Int32 := some (-1 : Int32)
def fX11_peace (M : Mem) : Option Int32 := fX11_peace_2 M (fX11_peace_18 M) (fX11_peace_26 M) FU (0 : Int32)
set_option maxHeartbeats 4000000 in
set_option maxRecDepth 100000 in
theorem wX11_peace_2 {r : Int32} {M : Mem} {k18 : Int32 → Option Int32} {k26 : Option Int32} (X : CX E p s m args c meth cX11_peace 2 (some .int) RX11) (hk18 : ∀ {x1 : Int32} {H : Heap} {locs : List Loc} {ls : Array Slot}, k18 x1 = some r → Rl E (sh_ b) (nn b) s.heap M H locs → lv_has ls 2 [(1, .int x1)] → W p l e (rm 8 0 0) s m args below meth c H locs 0 0 (MQ below (qq E (some (.int r)) (sh_ b) (nn b) M) args s 0 0 (fr E)) (F0 m 18 ls [])) (hk26 : ∀ {H : Heap} {locs : List Loc} {ls : Array Slot}, k26 = some r → Rl E (sh_ b) (nn b) s.heap M H locs → lv_has ls 2 [] → W p l e (rm 8 0 0) s m args below meth c H locs 0 0 (MQ below (qq E (some (.int r)) (sh_ b) (nn b) M) args s 0 0 (fr E)) (F0 m 26 ls [])) : ∀ (n : Nat) {x1 : Int32} {H : Heap} {locs : List Loc} {ls : Array Slot}, fX11_peace_2 M k18 k26 n x1 = some r → Rl E (sh_ b) (nn b) s.heap M H locs → lv_has ls 2 [(0, .ref (eB E + 47)), (1, .int x1)] → W p l e (rm 8 0 0) s m args below meth c H locs 0 0 (MQ below (qq E (some (.int r)) (sh_ b) (nn b) M) args s 0 0 (fr E)) (F0 m 2 ls []) := by
  obtain ⟨hx, hb, hr, hml, hown, hts, hK, hN, hO, hlk, hbs⟩ := id X
  intro n
  induction n with
  | zero =>
    intro x1 H locs ls hf hR hl
    exact absurd (show none = some _ from hf) (fun h => by cases h)
  | succ n ih =>
    intro x1 H locs ls hf hR hl
    rw [fX11_peace_2] at hf
    refine lv_iload_n hx hb dX11_peace_2 rfl (lv_at hl 1 rfl) ?_
    refine lv_aload_n hx hb dX11_peace_3 rfl (lv_at hl 0 rfl) ?_
    obtain ⟨q4, c4, hf⟩ := br_b hf
    refine x_callV (k := 47) (As := []) (rest := [.int x1]) (st1 := [.int q4, .int x1]) X hR (ctX11_places c4) ml_X11_242 im_X11_places se_X11_places in_X11 co_X11_places yo_X11_places rfl kX11 (z_47 b) (rm_ok (by decide) (by decide)) rfl hl.1 rfl rfl (Nat.le_of_ble_eq_true rfl) dX11_peace_4 ⟨Nat.zero_le _, Nat.zero_le _⟩ (fun H locs hR => ?_)
    refine lv_icmp_ge (tgt := 26) hx hb dX11_peace_7 (by decide) (fun q7 => ?_) (fun q7 => ?_)
    · have hf := (br_if hf).1 q7
      exact hk26 hf hR (lv_sub hl [] rfl)
    · have hf := (br_if hf).2 q7
      refine lv_aload_n hx hb dX11_peace_10 rfl (lv_at hl 0 rfl) ?_
      refine lv_iload_n hx hb dX11_peace_11 rfl (lv_at hl 1 rfl) ?_
      obtain ⟨q12, c12, hf⟩ := br_b hf
      refine x_callV (k := 47) (As := [.int x1]) (rest := []) (st1 := [.int q12]) X hR (ctX11_isUnbeaten c12) ml_X11_401 im_X11_isUnbeaten se_X11_isUnbeaten in_X11 co_X11_isUnbeaten yo_X11_isUnbeaten rfl kX11 (z_47 b) (rm_ok (by decide) (by decide)) rfl hl.1 rfl rfl (Nat.le_of_ble_eq_true rfl) dX11_peace_12 ⟨Nat.zero_le _, Nat.zero_le _⟩ (fun H locs hR => ?_)
      refine lv_if_eq (tgt := 20) hx hb dX11_peace_15 (by decide) (fun q15 => ?_) (fun q15 => ?_)
      · have hf := (br_if hf).1 q15
        obtain ⟨v20, e20⟩ : ∃ y : Int32, y = (x1 + (1 : Int32)) := ⟨_, rfl⟩
        have hf := nx_at e20 hf
        refine lv_iinc (v := v20) (lv' := [(1, .int v20), (0, .ref (eB E + 47))]) hx hb dX11_peace_20 hl (k := 1) rfl (by rw [e20]; rfl) (by decide) rfl (fun ls hl => ?_)
        refine lv_goto (tgt := 2) hx hb dX11_peace_23 (by decide) ?_
        exact ih hf hR (lv_sub hl [1, 0] rfl)
      · have hf := (br_if hf).2 q15
        exact hk18 hf hR (lv_sub hl [1] rfl)
set_option maxHeartbeats 4000000 in
set_option maxRecDepth 100000 in
theorem wX11_peace_18 {r : Int32} {M : Mem} (X : CX E p s m args c meth cX11_peace 2 (some .int) RX11) : ∀ {x1 : Int32} {H : Heap} {locs : List Loc} {ls : Array Slot}, fX11_peace_18 M x1 = some r → Rl E (sh_ b) (nn b) s.heap M H locs → lv_has ls 2 [(1, .int x1)] → W p l e (rm 8 0 0) s m args below meth c H locs 0 0 (MQ below (qq E (some (.int r)) (sh_ b) (nn b) M) args s 0 0 (fr E)) (F0 m 18 ls []) := by
  obtain ⟨hx, hb, hr, hml, hown, hts, hK, hN, hO, hlk, hbs⟩ := id X
  intro x1 H locs ls hf hR hl
  unfold fX11_peace_18 at hf
  refine lv_iload_n hx hb dX11_peace_18 rfl (lv_at hl 0 rfl) ?_
  cases hf
  exact x_iret hx hb hr hlk hR dX11_peace_19
set_option maxHeartbeats 4000000 in
set_option maxRecDepth 100000 in
theorem wX11_peace_26 {r : Int32} {M : Mem} (X : CX E p s m args c meth cX11_peace 2 (some .int) RX11) : ∀ {H : Heap} {locs : List Loc} {ls : Array Slot}, fX11_peace_26 M = some r → Rl E (sh_ b) (nn b) s.heap M H locs → lv_has ls 2 [] → W p l e (rm 8 0 0) s m args below meth c H locs 0 0 (MQ below (qq E (some (.int r)) (sh_ b) (nn b) M) args s 0 0 (fr E)) (F0 m 26 ls []) := by
  obtain ⟨hx, hb, hr, hml, hown, hts, hK, hN, hO, hlk, hbs⟩ := id X
  intro H locs ls hf hR hl
  unfold fX11_peace_26 at hf
  refine lv_iconst (v := -1) hx hb dX11_peace_26 (by decide) ?_
  cases hf
  exact x_iret hx hb hr hlk hR dX11_peace_27
set_option maxHeartbeats 4000000 in
set_option maxRecDepth 100000 in
theorem wX11_peace_0 {r : Int32} {M : Mem} (X : CX E p s m args c meth cX11_peace 2 (some .int) RX11) : ∀ {H : Heap} {locs : List Loc} {ls : Array Slot}, fX11_peace M = some r → Rl E (sh_ b) (nn b) s.heap M H locs → lv_has ls 2 [(0, .ref (eB E + 47))] → W p l e (rm 8 0 0) s m args below meth c H locs 0 0 (MQ below (qq E (some (.int r)) (sh_ b) (nn b) M) args s 0 0 (fr E)) (F0 m 0 ls []) := by
  obtain ⟨hx, hb, hr, hml, hown, hts, hK, hN, hO, hlk, hbs⟩ := id X
  intro H locs ls hf hR hl
  unfold fX11_peace at hf
  refine lv_iconst (v := 0) hx hb dX11_peace_0 (by decide) ?_
  refine lv_istore_n (lv' := [(1, .int (0 : Int32)), (0, .ref (eB E + 47))]) hx hb dX11_peace_1 rfl hl (by decide) rfl (fun ls hl => ?_)
  exact wX11_peace_2 X (fun hf hR hl => wX11_peace_18 X hf hR hl) (fun hf hR hl => wX11_peace_26 X hf hR hl) FU hf hR (lv_sub hl [1, 0] rfl)
theorem ctX11_peace {l : Launch} {E : Ge} {b : Bool} {M : Mem} {r : Int32} (h : fX11_peace M = some r) : CT l E yX11_peace cX11_peace 2 (some .int) 8 0 0 [.ref (eB E + 47)] (some (.int r)) (sh_ b) (nn b) M (sh_ b) (nn b) M := by
  refine met_of (by decide) (Nat.le_of_ble_eq_true rfl) ?_
  intro p e s m args below meth c X _ hR ls hl
  exact wX11_peace_0 X h hR hl
def fX11_make_209 (k58 : Int32 → Int32 → Int32 → Int32 → Int32 → Int32 → Int32 → Int32 → Mem → Option (Int32 × Mem)) (k215 : Int32 → Int32 → Int32 → Int32 → Int32 → Mem → Option (Int32 × Mem)) (x1 : Int32) (x2 : Int32) (x3 : Int32) (x4 : Int32) (x5 : Int32) (x6 : Int32) (x7 : Int32) (x8 : Int32) (M : Mem) : Option (Int32 × Mem) := nx (x8 + (1 : Int32)) (fun v209 => k58 x1 x2 x3 x4 x5 x6 x7 v209 M)
def fX11_make_187 (k58 : Int32 → Int32 → Int32 → Int32 → Int32 → Int32 → Int32 → Int32 → Mem → Option (Int32 × Mem)) (k215 : Int32 → Int32 → Int32 → Int32 → Int32 → Mem → Option (Int32 × Mem)) (x1 : Int32) (x2 : Int32) (x3 : Int32) (x4 : Int32) (x5 : Int32) (x6 : Int32) (x7 : Int32) (x8 : Int32) (M : Mem) : Option (Int32 × Mem) := (if inb x5 15 = true then nx (sI M 50 (ix x5) x6) (fun M197 => (if inb x5 15 = true then nx (sI M197 53 (ix x5) x7) (fun M208 => fX11_make_209 k58 k215 x1 x2 x3 x4 x5 x6 x7 x8 M208) else none)) else none)
def fX11_make_133 (k58 : Int32 → Int32 → Int32 → Int32 → Int32 → Int32 → Int32 → Int32 → Mem → Option (Int32 × Mem)) (k215 : Int32 → Int32 → Int32 → Int32 → Int32 → Mem → Option (Int32 × Mem)) (x1 : Int32) (x2 : Int32) (x3 : Int32) (x4 : Int32) (x5 : Int32) (x6 : Int32) (x7 : Int32) (x8 : Int32) (x11 : Int32) (M : Mem) : Option (Int32 × Mem) := (if inb x8 20 = true then (if inb x5 15 = true then nx (sI M 50 (ix x5) (M.1 68 (ix x8))) (fun M150 => (if inb x8 20 = true then (if inb x5 15 = true then nx (sI M150 53 (ix x5) (M150.1 71 (ix x8))) (fun M168 => (fX11_peace M168).bind (fun q170 => (if q170 = (-1 : Int32) then fX11_make_187 k58 k215 x1 x2 x3 x4 x5 x6 x7 x8 M168 else fX11_make_187 k58 k215 x1 x5 x8 x11 x5 x6 x7 x8 M168))) else none) else none)) else none) else none)
def fX11_make_58 (k215 : Int32 → Int32 → Int32 → Int32 → Int32 → Mem → Option (Int32 × Mem)) : Nat → Int32 → Int32 → Int32 → Int32 → Int32 → Int32 → Int32 → Int32 → Mem → Option (Int32 × Mem)
  | 0, _, _, _, _, _, _, _, _, _ => none
  | n + 1, x1, x2, x3, x4, x5, x6, x7, x8, M => (fX11_places M).bind (fun q61 => (if q61 ≤ x8 then k215 x1 x2 x3 x4 x5 M else (if inb x8 20 = true then nx ((M.1 68 (ix x8)) - x6) (fun v79 => (if inb x8 20 = true then nx ((M.1 71 (ix x8)) - x7) (fun v93 => (if inb x5 15 = true then nx (((v79 * v79) + (v93 * v93)) * (M.1 56 (ix x5))) (fun v116 => (if x2 = (-1 : Int32) then fX11_make_133 (fX11_make_58 k215 n) k215 x1 x2 x3 x4 x5 x6 x7 x8 v116 M else (if v116 < x4 then fX11_make_133 (fX11_make_58 k215 n) k215 x1 x2 x3 x4 x5 x6 x7 x8 v116 M else fX11_make_209 (fX11_make_58 k215 n) k215 x1 x2 x3 x4 x5 x6 x7 x8 M))) else none)) else none)) else none)))
def fX11_make_215 (k24 : Int32 → Int32 → Int32 → Int32 → Int32 → Mem → Option (Int32 × Mem)) (k221 : Int32 → Int32 → Int32 → Int32 → Mem → Option (Int32 × Mem)) (x1 : Int32) (x2 : Int32) (x3 : Int32) (x4 : Int32) (x5 : Int32) (M : Mem) : Option (Int32 × Mem) := nx (x5 + (1 : Int32)) (fun v215 => k24 x1 x2 x3 x4 v215 M)
def fX11_make_24 (k221 : Int32 → Int32 → Int32 → Int32 → Mem → Option (Int32 × Mem)) : Nat → Int32 → Int32 → Int32 → Int32 → Int32 → Mem → Option (Int32 × Mem)
  | 0, _, _, _, _, _, _ => none
  | n + 1, x1, x2, x3, x4, x5, M => (fX11_voters M).bind (fun q27 => (if q27 ≤ x5 then k221 x1 x2 x3 x4 M else (if inb x5 15 = true then nx (M.1 50 (ix x5)) (fun v42 => (if inb x5 15 = true then nx (M.1 53 (ix x5)) (fun v53 => fX11_make_58 (fX11_make_215 (fX11_make_24 k221 n) k221) FU x1 x2 x3 x4 x5 v42 v53 (0 : Int32) M) else none)) else none)))
def fX11_make_249 (s0 : Int32) (M : Mem) : Option (Int32 × Mem) := some (s0, M)
def fX11_make_221 (x1 : Int32) (x2 : Int32) (x3 : Int32) (x4 : Int32) (M : Mem) : Option (Int32 × Mem) := (if x2 = (-1 : Int32) then fX11_make_249 (-1 : Int32) M else (if x1 = 0 then fX11_make_249 x2 M else (if x1 = (1 : Int32) then fX11_make_249 x3 M else fX11_make_249 x4 M)))
def fX11_make (x1 : Int32) (M : Mem) : Option (Int32 × Mem) := (fX11_in M (x1.toInt64) (0 : Int64) (2 : Int64)).bind (fun q6 => (if q6 = 0 then some ((-1 : Int32), M) else fX11_make_24 fX11_make_221 FU x1 (-1 : Int32) (-1 : Int32) (0 : Int32) (0 : Int32) M))
set_option maxHeartbeats 4000000 in
set_option maxRecDepth 100000 in
theorem wX11_make_209 {r : Int32} {M1 : Mem} {k58 : Int32 → Int32 → Int32 → Int32 → Int32 → Int32 → Int32 → Int32 → Mem → Option (Int32 × Mem)} {k215 : Int32 → Int32 → Int32 → Int32 → Int32 → Mem → Option (Int32 × Mem)} (X : CX E p s m args c meth cX11_make 12 (some .int) RX11) (hk58 : ∀ {x1 : Int32} {x2 : Int32} {x3 : Int32} {x4 : Int32} {x5 : Int32} {x6 : Int32} {x7 : Int32} {x8 : Int32} {M : Mem} {H : Heap} {locs : List Loc} {ls : Array Slot}, k58 x1 x2 x3 x4 x5 x6 x7 x8 M = some (r, M1) → Rl E (sh_ b) (nn b) s.heap M H locs → lv_has ls 12 [(0, .ref (eB E + 47)), (1, .int x1), (2, .int x2), (3, .int x3), (4, .int x4), (5, .int x5), (6, .int x6), (7, .int x7), (8, .int x8)] → W p l e (rm 9 0 0) s m args below meth c H locs 0 0 (MQ below (qq E (some (.int r)) (sh_ b) (nn b) M1) args s 0 0 (fr E)) (F0 m 58 ls [])) (hk215 : ∀ {x1 : Int32} {x2 : Int32} {x3 : Int32} {x4 : Int32} {x5 : Int32} {M : Mem} {H : Heap} {locs : List Loc} {ls : Array Slot}, k215 x1 x2 x3 x4 x5 M = some (r, M1) → Rl E (sh_ b) (nn b) s.heap M H locs → lv_has ls 12 [(0, .ref (eB E + 47)), (1, .int x1), (2, .int x2), (3, .int x3), (4, .int x4), (5, .int x5)] → W p l e (rm 9 0 0) s m args below meth c H locs 0 0 (MQ below (qq E (some (.int r)) (sh_ b) (nn b) M1) args s 0 0 (fr E)) (F0 m 215 ls [])) : ∀ {x1 : Int32} {x2 : Int32} {x3 : Int32} {x4 : Int32} {x5 : Int32} {x6 : Int32} {x7 : Int32} {x8 : Int32} {M : Mem} {H : Heap} {locs : List Loc} {ls : Array Slot}, fX11_make_209 k58 k215 x1 x2 x3 x4 x5 x6 x7 x8 M = some (r, M1) → Rl E (sh_ b) (nn b) s.heap M H locs → lv_has ls 12 [(0, .ref (eB E + 47)), (1, .int x1), (2, .int x2), (3, .int x3), (4, .int x4), (5, .int x5), (6, .int x6), (7, .int x7), (8, .int x8)] → W p l e (rm 9 0 0) s m args below meth c H locs 0 0 (MQ below (qq E (some (.int r)) (sh_ b) (nn b) M1) args s 0 0 (fr E)) (F0 m 209 ls []) := by
  obtain ⟨hx, hb, hr, hml, hown, hts, hK, hN, hO, hlk, hbs⟩ := id X
  intro x1 x2 x3 x4 x5 x6 x7 x8 M H locs ls hf hR hl
  unfold fX11_make_209 at hf
  obtain ⟨v209, e209⟩ : ∃ y : Int32, y = (x8 + (1 : Int32)) := ⟨_, rfl⟩
  have hf := nx_at e209 hf
  refine lv_iinc (v := v209) (lv' := [(8, .int v209), (0, .ref (eB E + 47)), (1, .int x1), (2, .int x2), (3, .int x3), (4, .int x4), (5, .int x5), (6, .int x6), (7, .int x7)]) hx hb dX11_make_209 hl (k := 8) rfl (by rw [e209]; rfl) (by decide) rfl (fun ls hl => ?_)
  refine lv_goto (tgt := 58) hx hb dX11_make_212 (by decide) ?_
  exact hk58 hf hR (lv_sub hl [1, 2, 3, 4, 5, 6, 7, 8, 0] rfl)
set_option maxHeartbeats 4000000 in
set_option maxRecDepth 100000 in
theorem wX11_make_187 {r : Int32} {M1 : Mem} {k58 : Int32 → Int32 → Int32 → Int32 → Int32 → Int32 → Int32 → Int32 → Mem → Option (Int32 × Mem)} {k215 : Int32 → Int32 → Int32 → Int32 → Int32 → Mem → Option (Int32 × Mem)} (X : CX E p s m args c meth cX11_make 12 (some .int) RX11) (hk58 : ∀ {x1 : Int32} {x2 : Int32} {x3 : Int32} {x4 : Int32} {x5 : Int32} {x6 : Int32} {x7 : Int32} {x8 : Int32} {M : Mem} {H : Heap} {locs : List Loc} {ls : Array Slot}, k58 x1 x2 x3 x4 x5 x6 x7 x8 M = some (r, M1) → Rl E (sh_ b) (nn b) s.heap M H locs → lv_has ls 12 [(0, .ref (eB E + 47)), (1, .int x1), (2, .int x2), (3, .int x3), (4, .int x4), (5, .int x5), (6, .int x6), (7, .int x7), (8, .int x8)] → W p l e (rm 9 0 0) s m args below meth c H locs 0 0 (MQ below (qq E (some (.int r)) (sh_ b) (nn b) M1) args s 0 0 (fr E)) (F0 m 58 ls [])) (hk215 : ∀ {x1 : Int32} {x2 : Int32} {x3 : Int32} {x4 : Int32} {x5 : Int32} {M : Mem} {H : Heap} {locs : List Loc} {ls : Array Slot}, k215 x1 x2 x3 x4 x5 M = some (r, M1) → Rl E (sh_ b) (nn b) s.heap M H locs → lv_has ls 12 [(0, .ref (eB E + 47)), (1, .int x1), (2, .int x2), (3, .int x3), (4, .int x4), (5, .int x5)] → W p l e (rm 9 0 0) s m args below meth c H locs 0 0 (MQ below (qq E (some (.int r)) (sh_ b) (nn b) M1) args s 0 0 (fr E)) (F0 m 215 ls [])) : ∀ {x1 : Int32} {x2 : Int32} {x3 : Int32} {x4 : Int32} {x5 : Int32} {x6 : Int32} {x7 : Int32} {x8 : Int32} {M : Mem} {H : Heap} {locs : List Loc} {ls : Array Slot}, fX11_make_187 k58 k215 x1 x2 x3 x4 x5 x6 x7 x8 M = some (r, M1) → Rl E (sh_ b) (nn b) s.heap M H locs → lv_has ls 12 [(0, .ref (eB E + 47)), (1, .int x1), (2, .int x2), (3, .int x3), (4, .int x4), (5, .int x5), (6, .int x6), (7, .int x7), (8, .int x8)] → W p l e (rm 9 0 0) s m args below meth c H locs 0 0 (MQ below (qq E (some (.int r)) (sh_ b) (nn b) M1) args s 0 0 (fr E)) (F0 m 187 ls []) := by
  obtain ⟨hx, hb, hr, hml, hown, hts, hK, hN, hO, hlk, hbs⟩ := id X
  intro x1 x2 x3 x4 x5 x6 x7 x8 M H locs ls hf hR hl
  unfold fX11_make_187 at hf
  refine lv_aload_n hx hb dX11_make_187 rfl (lv_at hl 0 rfl) ?_
  refine x_get hx hb hown hts hK hR kX11 (z_47 b) (j := 6) (by decide) fl_X11_15 (v := .ref (eB E + 49)) rfl dX11_make_188 ?_
  refine lv_iconst (v := 0) hx hb dX11_make_191 (by decide) ?_
  refine x_aald5 hx hb hK hR (z_49 b) (by decide) (r := 50) rfl dX11_make_192 ?_
  refine lv_iload hx hb dX11_make_193 (lv_at hl 5 rfl) ?_
  refine lv_iload hx hb dX11_make_195 (lv_at hl 6 rfl) ?_
  obtain ⟨g197, hf⟩ := br_g hf
  refine x_iast hx hb hK hR (z_50 b) g197 dX11_make_197 (fun H locs hR => ?_)
  obtain ⟨M197, e197⟩ : ∃ y : Mem, y = (sI M 50 (ix x5) x6) := ⟨_, rfl⟩
  have hf := nx_at e197 hf
  have hR : Rl E (sh_ b) (nn b) s.heap M197 H locs := by rw [e197]; exact hR
  refine lv_aload_n hx hb dX11_make_198 rfl (lv_at hl 0 rfl) ?_
  refine x_get hx hb hown hts hK hR kX11 (z_47 b) (j := 7) (by decide) fl_X11_18 (v := .ref (eB E + 52)) rfl dX11_make_199 ?_
  refine lv_iconst (v := 0) hx hb dX11_make_202 (by decide) ?_
  refine x_aald5 hx hb hK hR (z_52 b) (by decide) (r := 53) rfl dX11_make_203 ?_
  refine lv_iload hx hb dX11_make_204 (lv_at hl 5 rfl) ?_
  refine lv_iload hx hb dX11_make_206 (lv_at hl 7 rfl) ?_
  obtain ⟨g208, hf⟩ := br_g hf
  refine x_iast hx hb hK hR (z_53 b) g208 dX11_make_208 (fun H locs hR => ?_)
  obtain ⟨M208, e208⟩ : ∃ y : Mem, y = (sI M197 53 (ix x5) x7) := ⟨_, rfl⟩
  have hf := nx_at e208 hf
  have hR : Rl E (sh_ b) (nn b) s.heap M208 H locs := by rw [e208]; exact hR
  exact wX11_make_209 X (fun hf hR hl => hk58 hf hR hl) (fun hf hR hl => hk215 hf hR hl) hf hR hl
set_option maxHeartbeats 4000000 in
set_option maxRecDepth 100000 in
theorem wX11_make_133 {r : Int32} {M1 : Mem} {k58 : Int32 → Int32 → Int32 → Int32 → Int32 → Int32 → Int32 → Int32 → Mem → Option (Int32 × Mem)} {k215 : Int32 → Int32 → Int32 → Int32 → Int32 → Mem → Option (Int32 × Mem)} (X : CX E p s m args c meth cX11_make 12 (some .int) RX11) (hk58 : ∀ {x1 : Int32} {x2 : Int32} {x3 : Int32} {x4 : Int32} {x5 : Int32} {x6 : Int32} {x7 : Int32} {x8 : Int32} {M : Mem} {H : Heap} {locs : List Loc} {ls : Array Slot}, k58 x1 x2 x3 x4 x5 x6 x7 x8 M = some (r, M1) → Rl E (sh_ b) (nn b) s.heap M H locs → lv_has ls 12 [(0, .ref (eB E + 47)), (1, .int x1), (2, .int x2), (3, .int x3), (4, .int x4), (5, .int x5), (6, .int x6), (7, .int x7), (8, .int x8)] → W p l e (rm 9 0 0) s m args below meth c H locs 0 0 (MQ below (qq E (some (.int r)) (sh_ b) (nn b) M1) args s 0 0 (fr E)) (F0 m 58 ls [])) (hk215 : ∀ {x1 : Int32} {x2 : Int32} {x3 : Int32} {x4 : Int32} {x5 : Int32} {M : Mem} {H : Heap} {locs : List Loc} {ls : Array Slot}, k215 x1 x2 x3 x4 x5 M = some (r, M1) → Rl E (sh_ b) (nn b) s.heap M H locs → lv_has ls 12 [(0, .ref (eB E + 47)), (1, .int x1), (2, .int x2), (3, .int x3), (4, .int x4), (5, .int x5)] → W p l e (rm 9 0 0) s m args below meth c H locs 0 0 (MQ below (qq E (some (.int r)) (sh_ b) (nn b) M1) args s 0 0 (fr E)) (F0 m 215 ls [])) : ∀ {x1 : Int32} {x2 : Int32} {x3 : Int32} {x4 : Int32} {x5 : Int32} {x6 : Int32} {x7 : Int32} {x8 : Int32} {x11 : Int32} {M : Mem} {H : Heap} {locs : List Loc} {ls : Array Slot}, fX11_make_133 k58 k215 x1 x2 x3 x4 x5 x6 x7 x8 x11 M = some (r, M1) → Rl E (sh_ b) (nn b) s.heap M H locs → lv_has ls 12 [(0, .ref (eB E + 47)), (1, .int x1), (2, .int x2), (3, .int x3), (4, .int x4), (5, .int x5), (6, .int x6), (7, .int x7), (8, .int x8), (11, .int x11)] → W p l e (rm 9 0 0) s m args below meth c H locs 0 0 (MQ below (qq E (some (.int r)) (sh_ b) (nn b) M1) args s 0 0 (fr E)) (F0 m 133 ls []) := by
  obtain ⟨hx, hb, hr, hml, hown, hts, hK, hN, hO, hlk, hbs⟩ := id X
  intro x1 x2 x3 x4 x5 x6 x7 x8 x11 M H locs ls hf hR hl
  unfold fX11_make_133 at hf
  refine lv_aload_n hx hb dX11_make_133 rfl (lv_at hl 0 rfl) ?_
  refine x_get hx hb hown hts hK hR kX11 (z_47 b) (j := 6) (by decide) fl_X11_15 (v := .ref (eB E + 49)) rfl dX11_make_134 ?_
  refine lv_iconst (v := 0) hx hb dX11_make_137 (by decide) ?_
  refine x_aald5 hx hb hK hR (z_49 b) (by decide) (r := 50) rfl dX11_make_138 ?_
  refine lv_iload hx hb dX11_make_139 (lv_at hl 5 rfl) ?_
  refine lv_aload_n hx hb dX11_make_141 rfl (lv_at hl 0 rfl) ?_
  refine x_get hx hb hown hts hK hR kX11 (z_47 b) (j := 12) (by decide) fl_X11_33 (v := .ref (eB E + 67)) rfl dX11_make_142 ?_
  refine lv_iconst (v := 0) hx hb dX11_make_145 (by decide) ?_
  refine x_aald5 hx hb hK hR (z_67 b) (by decide) (r := 68) rfl dX11_make_146 ?_
  refine lv_iload hx hb dX11_make_147 (lv_at hl 8 rfl) ?_
  obtain ⟨g149, hf⟩ := br_g hf
  refine x_iald hx hb hK hR (z_68 b) g149 dX11_make_149 ?_
  obtain ⟨g150, hf⟩ := br_g hf
  refine x_iast hx hb hK hR (z_50 b) g150 dX11_make_150 (fun H locs hR => ?_)
  obtain ⟨M150, e150⟩ : ∃ y : Mem, y = (sI M 50 (ix x5) (M.1 68 (ix x8))) := ⟨_, rfl⟩
  have hf := nx_at e150 hf
  have hR : Rl E (sh_ b) (nn b) s.heap M150 H locs := by rw [e150]; exact hR
  refine lv_aload_n hx hb dX11_make_151 rfl (lv_at hl 0 rfl) ?_
  refine x_get hx hb hown hts hK hR kX11 (z_47 b) (j := 7) (by decide) fl_X11_18 (v := .ref (eB E + 52)) rfl dX11_make_152 ?_
  refine lv_iconst (v := 0) hx hb dX11_make_155 (by decide) ?_
  refine x_aald5 hx hb hK hR (z_52 b) (by decide) (r := 53) rfl dX11_make_156 ?_
  refine lv_iload hx hb dX11_make_157 (lv_at hl 5 rfl) ?_
  refine lv_aload_n hx hb dX11_make_159 rfl (lv_at hl 0 rfl) ?_
  refine x_get hx hb hown hts hK hR kX11 (z_47 b) (j := 13) (by decide) fl_X11_36 (v := .ref (eB E + 70)) rfl dX11_make_160 ?_
  refine lv_iconst (v := 0) hx hb dX11_make_163 (by decide) ?_
  refine x_aald5 hx hb hK hR (z_70 b) (by decide) (r := 71) rfl dX11_make_164 ?_
  refine lv_iload hx hb dX11_make_165 (lv_at hl 8 rfl) ?_
  obtain ⟨g167, hf⟩ := br_g hf
  refine x_iald hx hb hK hR (z_71 b) g167 dX11_make_167 ?_
  obtain ⟨g168, hf⟩ := br_g hf
  refine x_iast hx hb hK hR (z_53 b) g168 dX11_make_168 (fun H locs hR => ?_)
  obtain ⟨M168, e168⟩ : ∃ y : Mem, y = (sI M150 53 (ix x5) (M150.1 71 (ix x8))) := ⟨_, rfl⟩
  have hf := nx_at e168 hf
  have hR : Rl E (sh_ b) (nn b) s.heap M168 H locs := by rw [e168]; exact hR
  refine lv_aload_n hx hb dX11_make_169 rfl (lv_at hl 0 rfl) ?_
  obtain ⟨q170, c170, hf⟩ := br_b hf
  refine x_callV (k := 47) (As := []) (rest := []) (st1 := [.int q170]) X hR (ctX11_peace c170) ml_X11_404 im_X11_peace se_X11_peace in_X11 co_X11_peace yo_X11_peace rfl kX11 (z_47 b) (rm_ok (by decide) (by decide)) rfl hl.1 rfl rfl (Nat.le_of_ble_eq_true rfl) dX11_make_170 ⟨Nat.zero_le _, Nat.zero_le _⟩ (fun H locs hR => ?_)
  refine lv_iconst (v := -1) hx hb dX11_make_173 (by decide) ?_
  refine lv_icmp_eq (tgt := 187) hx hb dX11_make_174 (by decide) (fun q174 => ?_) (fun q174 => ?_)
  · have hf := (br_if hf).1 q174
    exact wX11_make_187 X (fun hf hR hl => hk58 hf hR hl) (fun hf hR hl => hk215 hf hR hl) hf hR (lv_sub hl [0, 1, 2, 3, 4, 5, 6, 7, 8] rfl)
  · have hf := (br_if hf).2 q174
    refine lv_iload hx hb dX11_make_177 (lv_at hl 5 rfl) ?_
    refine lv_istore_n (lv' := [(2, .int x5), (0, .ref (eB E + 47)), (1, .int x1), (3, .int x3), (4, .int x4), (5, .int x5), (6, .int x6), (7, .int x7), (8, .int x8), (11, .int x11)]) hx hb dX11_make_179 rfl hl (by decide) rfl (fun ls hl => ?_)
    refine lv_iload hx hb dX11_make_180 (lv_at hl 8 rfl) ?_
    refine lv_istore_n (lv' := [(3, .int x8), (2, .int x5), (0, .ref (eB E + 47)), (1, .int x1), (4, .int x4), (5, .int x5), (6, .int x6), (7, .int x7), (8, .int x8), (11, .int x11)]) hx hb dX11_make_182 rfl hl (by decide) rfl (fun ls hl => ?_)
    refine lv_iload hx hb dX11_make_183 (lv_at hl 9 rfl) ?_
    refine lv_istore (lv' := [(4, .int x11), (3, .int x8), (2, .int x5), (0, .ref (eB E + 47)), (1, .int x1), (5, .int x5), (6, .int x6), (7, .int x7), (8, .int x8), (11, .int x11)]) hx hb dX11_make_185 hl (by decide) rfl (fun ls hl => ?_)
    exact wX11_make_187 X (fun hf hR hl => hk58 hf hR hl) (fun hf hR hl => hk215 hf hR hl) hf hR (lv_sub hl [3, 4, 2, 1, 0, 5, 6, 7, 8] rfl)
set_option maxHeartbeats 4000000 in
set_option maxRecDepth 100000 in
theorem wX11_make_58 {r : Int32} {M1 : Mem} {k215 : Int32 → Int32 → Int32 → Int32 → Int32 → Mem → Option (Int32 × Mem)} (X : CX E p s m args c meth cX11_make 12 (some .int) RX11) (hk215 : ∀ {x1 : Int32} {x2 : Int32} {x3 : Int32} {x4 : Int32} {x5 : Int32} {M : Mem} {H : Heap} {locs : List Loc} {ls : Array Slot}, k215 x1 x2 x3 x4 x5 M = some (r, M1) → Rl E (sh_ b) (nn b) s.heap M H locs → lv_has ls 12 [(0, .ref (eB E + 47)), (1, .int x1), (2, .int x2), (3, .int x3), (4, .int x4), (5, .int x5)] → W p l e (rm 9 0 0) s m args below meth c H locs 0 0 (MQ below (qq E (some (.int r)) (sh_ b) (nn b) M1) args s 0 0 (fr E)) (F0 m 215 ls [])) : ∀ (n : Nat) {x1 : Int32} {x2 : Int32} {x3 : Int32} {x4 : Int32} {x5 : Int32} {x6 : Int32} {x7 : Int32} {x8 : Int32} {M : Mem} {H : Heap} {locs : List Loc} {ls : Array Slot}, fX11_make_58 k215 n x1 x2 x3 x4 x5 x6 x7 x8 M = some (r, M1) → Rl E (sh_ b) (nn b) s.heap M H locs → lv_has ls 12 [(0, .ref (eB E + 47)), (1, .int x1), (2, .int x2), (3, .int x3), (4, .int x4), (5, .int x5), (6, .int x6), (7, .int x7), (8, .int x8)] → W p l e (rm 9 0 0) s m args below meth c H locs 0 0 (MQ below (qq E (some (.int r)) (sh_ b) (nn b) M1) args s 0 0 (fr E)) (F0 m 58 ls []) := by
  obtain ⟨hx, hb, hr, hml, hown, hts, hK, hN, hO, hlk, hbs⟩ := id X
  intro n
  induction n with
  | zero =>
    intro x1 x2 x3 x4 x5 x6 x7 x8 M H locs ls hf hR hl
    exact absurd (show none = some _ from hf) (fun h => by cases h)
  | succ n ih =>
    intro x1 x2 x3 x4 x5 x6 x7 x8 M H locs ls hf hR hl
    rw [fX11_make_58] at hf
    refine lv_iload hx hb dX11_make_58 (lv_at hl 8 rfl) ?_
    refine lv_aload_n hx hb dX11_make_60 rfl (lv_at hl 0 rfl) ?_
    obtain ⟨q61, c61, hf⟩ := br_b hf
    refine x_callV (k := 47) (As := []) (rest := [.int x8]) (st1 := [.int q61, .int x8]) X hR (ctX11_places c61) ml_X11_242 im_X11_places se_X11_places in_X11 co_X11_places yo_X11_places rfl kX11 (z_47 b) (rm_ok (by decide) (by decide)) rfl hl.1 rfl rfl (Nat.le_of_ble_eq_true rfl) dX11_make_61 ⟨Nat.zero_le _, Nat.zero_le _⟩ (fun H locs hR => ?_)
    refine lv_icmp_ge (tgt := 215) hx hb dX11_make_64 (by decide) (fun q64 => ?_) (fun q64 => ?_)
    · have hf := (br_if hf).1 q64
      exact hk215 hf hR (lv_sub hl [0, 1, 2, 3, 4, 5] rfl)
    · have hf := (br_if hf).2 q64
      refine lv_aload_n hx hb dX11_make_67 rfl (lv_at hl 0 rfl) ?_
      refine x_get hx hb hown hts hK hR kX11 (z_47 b) (j := 12) (by decide) fl_X11_33 (v := .ref (eB E + 67)) rfl dX11_make_68 ?_
      refine lv_iconst (v := 0) hx hb dX11_make_71 (by decide) ?_
      refine x_aald5 hx hb hK hR (z_67 b) (by decide) (r := 68) rfl dX11_make_72 ?_
      refine lv_iload hx hb dX11_make_73 (lv_at hl 8 rfl) ?_
      obtain ⟨g75, hf⟩ := br_g hf
      refine x_iald hx hb hK hR (z_68 b) g75 dX11_make_75 ?_
      refine lv_iload hx hb dX11_make_76 (lv_at hl 6 rfl) ?_
      refine lv_isub hx hb dX11_make_78 ?_
      refine lv_topi (fun v79 e79 => ?_)
      have hf := nx_at e79 hf
      refine lv_istore (lv' := [(9, .int v79), (0, .ref (eB E + 47)), (1, .int x1), (2, .int x2), (3, .int x3), (4, .int x4), (5, .int x5), (6, .int x6), (7, .int x7), (8, .int x8)]) hx hb dX11_make_79 hl (by decide) rfl (fun ls hl => ?_)
      refine lv_aload_n hx hb dX11_make_81 rfl (lv_at hl 1 rfl) ?_
      refine x_get hx hb hown hts hK hR kX11 (z_47 b) (j := 13) (by decide) fl_X11_36 (v := .ref (eB E + 70)) rfl dX11_make_82 ?_
      refine lv_iconst (v := 0) hx hb dX11_make_85 (by decide) ?_
      refine x_aald5 hx hb hK hR (z_70 b) (by decide) (r := 71) rfl dX11_make_86 ?_
      refine lv_iload hx hb dX11_make_87 (lv_at hl 9 rfl) ?_
      obtain ⟨g89, hf⟩ := br_g hf
      refine x_iald hx hb hK hR (z_71 b) g89 dX11_make_89 ?_
      refine lv_iload hx hb dX11_make_90 (lv_at hl 8 rfl) ?_
      refine lv_isub hx hb dX11_make_92 ?_
      refine lv_topi (fun v93 e93 => ?_)
      have hf := nx_at e93 hf
      refine lv_istore (lv' := [(10, .int v93), (9, .int v79), (0, .ref (eB E + 47)), (1, .int x1), (2, .int x2), (3, .int x3), (4, .int x4), (5, .int x5), (6, .int x6), (7, .int x7), (8, .int x8)]) hx hb dX11_make_93 hl (by decide) rfl (fun ls hl => ?_)
      refine lv_iload hx hb dX11_make_95 (lv_at hl 1 rfl) ?_
      refine lv_iload hx hb dX11_make_97 (lv_at hl 1 rfl) ?_
      refine lv_imul hx hb dX11_make_99 ?_
      refine lv_iload hx hb dX11_make_100 (lv_at hl 0 rfl) ?_
      refine lv_iload hx hb dX11_make_102 (lv_at hl 0 rfl) ?_
      refine lv_imul hx hb dX11_make_104 ?_
      refine lv_iadd hx hb dX11_make_105 ?_
      refine lv_aload_n hx hb dX11_make_106 rfl (lv_at hl 2 rfl) ?_
      refine x_get hx hb hown hts hK hR kX11 (z_47 b) (j := 8) (by decide) fl_X11_21 (v := .ref (eB E + 55)) rfl dX11_make_107 ?_
      refine lv_iconst (v := 0) hx hb dX11_make_110 (by decide) ?_
      refine x_aald5 hx hb hK hR (z_55 b) (by decide) (r := 56) rfl dX11_make_111 ?_
      refine lv_iload hx hb dX11_make_112 (lv_at hl 7 rfl) ?_
      obtain ⟨g114, hf⟩ := br_g hf
      refine x_iald hx hb hK hR (z_56 b) g114 dX11_make_114 ?_
      refine lv_imul hx hb dX11_make_115 ?_
      refine lv_topi (fun v116 e116 => ?_)
      have hf := nx_at e116 hf
      refine lv_istore (lv' := [(11, .int v116), (10, .int v93), (9, .int v79), (0, .ref (eB E + 47)), (1, .int x1), (2, .int x2), (3, .int x3), (4, .int x4), (5, .int x5), (6, .int x6), (7, .int x7), (8, .int x8)]) hx hb dX11_make_116 hl (by decide) rfl (fun ls hl => ?_)
      refine lv_iload_n hx hb dX11_make_118 rfl (lv_at hl 5 rfl) ?_
      refine lv_iconst (v := -1) hx hb dX11_make_119 (by decide) ?_
      refine lv_icmp_eq (tgt := 133) hx hb dX11_make_120 (by decide) (fun q120 => ?_) (fun q120 => ?_)
      · have hf := (br_if hf).1 q120
        exact wX11_make_133 X (fun hf hR hl => ih hf hR hl) (fun hf hR hl => hk215 hf hR hl) hf hR (lv_sub hl [3, 4, 5, 6, 7, 8, 9, 10, 11, 0] rfl)
      · have hf := (br_if hf).2 q120
        refine lv_iload hx hb dX11_make_123 (lv_at hl 0 rfl) ?_
        refine lv_iload hx hb dX11_make_125 (lv_at hl 7 rfl) ?_
        refine lv_icmp_lt (tgt := 133) hx hb dX11_make_127 (by decide) (fun q127 => ?_) (fun q127 => ?_)
        · have hf := (br_if hf).1 q127
          exact wX11_make_133 X (fun hf hR hl => ih hf hR hl) (fun hf hR hl => hk215 hf hR hl) hf hR (lv_sub hl [3, 4, 5, 6, 7, 8, 9, 10, 11, 0] rfl)
        · have hf := (br_if hf).2 q127
          refine lv_goto (tgt := 209) hx hb dX11_make_130 (by decide) ?_
          exact wX11_make_209 X (fun hf hR hl => ih hf hR hl) (fun hf hR hl => hk215 hf hR hl) hf hR (lv_sub hl [3, 4, 5, 6, 7, 8, 9, 10, 11] rfl)
set_option maxHeartbeats 4000000 in
set_option maxRecDepth 100000 in
theorem wX11_make_215 {r : Int32} {M1 : Mem} {k24 : Int32 → Int32 → Int32 → Int32 → Int32 → Mem → Option (Int32 × Mem)} {k221 : Int32 → Int32 → Int32 → Int32 → Mem → Option (Int32 × Mem)} (X : CX E p s m args c meth cX11_make 12 (some .int) RX11) (hk24 : ∀ {x1 : Int32} {x2 : Int32} {x3 : Int32} {x4 : Int32} {x5 : Int32} {M : Mem} {H : Heap} {locs : List Loc} {ls : Array Slot}, k24 x1 x2 x3 x4 x5 M = some (r, M1) → Rl E (sh_ b) (nn b) s.heap M H locs → lv_has ls 12 [(0, .ref (eB E + 47)), (1, .int x1), (2, .int x2), (3, .int x3), (4, .int x4), (5, .int x5)] → W p l e (rm 9 0 0) s m args below meth c H locs 0 0 (MQ below (qq E (some (.int r)) (sh_ b) (nn b) M1) args s 0 0 (fr E)) (F0 m 24 ls [])) (hk221 : ∀ {x1 : Int32} {x2 : Int32} {x3 : Int32} {x4 : Int32} {M : Mem} {H : Heap} {locs : List Loc} {ls : Array Slot}, k221 x1 x2 x3 x4 M = some (r, M1) → Rl E (sh_ b) (nn b) s.heap M H locs → lv_has ls 12 [(1, .int x1), (2, .int x2), (3, .int x3), (4, .int x4)] → W p l e (rm 9 0 0) s m args below meth c H locs 0 0 (MQ below (qq E (some (.int r)) (sh_ b) (nn b) M1) args s 0 0 (fr E)) (F0 m 221 ls [])) : ∀ {x1 : Int32} {x2 : Int32} {x3 : Int32} {x4 : Int32} {x5 : Int32} {M : Mem} {H : Heap} {locs : List Loc} {ls : Array Slot}, fX11_make_215 k24 k221 x1 x2 x3 x4 x5 M = some (r, M1) → Rl E (sh_ b) (nn b) s.heap M H locs → lv_has ls 12 [(0, .ref (eB E + 47)), (1, .int x1), (2, .int x2), (3, .int x3), (4, .int x4), (5, .int x5)] → W p l e (rm 9 0 0) s m args below meth c H locs 0 0 (MQ below (qq E (some (.int r)) (sh_ b) (nn b) M1) args s 0 0 (fr E)) (F0 m 215 ls []) := by
  obtain ⟨hx, hb, hr, hml, hown, hts, hK, hN, hO, hlk, hbs⟩ := id X
  intro x1 x2 x3 x4 x5 M H locs ls hf hR hl
  unfold fX11_make_215 at hf
  obtain ⟨v215, e215⟩ : ∃ y : Int32, y = (x5 + (1 : Int32)) := ⟨_, rfl⟩
  have hf := nx_at e215 hf
  refine lv_iinc (v := v215) (lv' := [(5, .int v215), (0, .ref (eB E + 47)), (1, .int x1), (2, .int x2), (3, .int x3), (4, .int x4)]) hx hb dX11_make_215 hl (k := 5) rfl (by rw [e215]; rfl) (by decide) rfl (fun ls hl => ?_)
  refine lv_goto (tgt := 24) hx hb dX11_make_218 (by decide) ?_
  exact hk24 hf hR (lv_sub hl [1, 2, 3, 4, 5, 0] rfl)
set_option maxHeartbeats 4000000 in
set_option maxRecDepth 100000 in
theorem wX11_make_24 {r : Int32} {M1 : Mem} {k221 : Int32 → Int32 → Int32 → Int32 → Mem → Option (Int32 × Mem)} (X : CX E p s m args c meth cX11_make 12 (some .int) RX11) (hk221 : ∀ {x1 : Int32} {x2 : Int32} {x3 : Int32} {x4 : Int32} {M : Mem} {H : Heap} {locs : List Loc} {ls : Array Slot}, k221 x1 x2 x3 x4 M = some (r, M1) → Rl E (sh_ b) (nn b) s.heap M H locs → lv_has ls 12 [(1, .int x1), (2, .int x2), (3, .int x3), (4, .int x4)] → W p l e (rm 9 0 0) s m args below meth c H locs 0 0 (MQ below (qq E (some (.int r)) (sh_ b) (nn b) M1) args s 0 0 (fr E)) (F0 m 221 ls [])) : ∀ (n : Nat) {x1 : Int32} {x2 : Int32} {x3 : Int32} {x4 : Int32} {x5 : Int32} {M : Mem} {H : Heap} {locs : List Loc} {ls : Array Slot}, fX11_make_24 k221 n x1 x2 x3 x4 x5 M = some (r, M1) → Rl E (sh_ b) (nn b) s.heap M H locs → lv_has ls 12 [(0, .ref (eB E + 47)), (1, .int x1), (2, .int x2), (3, .int x3), (4, .int x4), (5, .int x5)] → W p l e (rm 9 0 0) s m args below meth c H locs 0 0 (MQ below (qq E (some (.int r)) (sh_ b) (nn b) M1) args s 0 0 (fr E)) (F0 m 24 ls []) := by
  obtain ⟨hx, hb, hr, hml, hown, hts, hK, hN, hO, hlk, hbs⟩ := id X
  intro n
  induction n with
  | zero =>
    intro x1 x2 x3 x4 x5 M H locs ls hf hR hl
    exact absurd (show none = some _ from hf) (fun h => by cases h)
  | succ n ih =>
    intro x1 x2 x3 x4 x5 M H locs ls hf hR hl
    rw [fX11_make_24] at hf
    refine lv_iload hx hb dX11_make_24 (lv_at hl 5 rfl) ?_
    refine lv_aload_n hx hb dX11_make_26 rfl (lv_at hl 0 rfl) ?_
    obtain ⟨q27, c27, hf⟩ := br_b hf
    refine x_callV (k := 47) (As := []) (rest := [.int x5]) (st1 := [.int q27, .int x5]) X hR (ctX11_voters c27) ml_X11_237 im_X11_voters se_X11_voters in_X11 co_X11_voters yo_X11_voters rfl kX11 (z_47 b) (rm_ok (by decide) (by decide)) rfl hl.1 rfl rfl (Nat.le_of_ble_eq_true rfl) dX11_make_27 ⟨Nat.zero_le _, Nat.zero_le _⟩ (fun H locs hR => ?_)
    refine lv_icmp_ge (tgt := 221) hx hb dX11_make_30 (by decide) (fun q30 => ?_) (fun q30 => ?_)
    · have hf := (br_if hf).1 q30
      exact hk221 hf hR (lv_sub hl [1, 2, 3, 4] rfl)
    · have hf := (br_if hf).2 q30
      refine lv_aload_n hx hb dX11_make_33 rfl (lv_at hl 0 rfl) ?_
      refine x_get hx hb hown hts hK hR kX11 (z_47 b) (j := 6) (by decide) fl_X11_15 (v := .ref (eB E + 49)) rfl dX11_make_34 ?_
      refine lv_iconst (v := 0) hx hb dX11_make_37 (by decide) ?_
      refine x_aald5 hx hb hK hR (z_49 b) (by decide) (r := 50) rfl dX11_make_38 ?_
      refine lv_iload hx hb dX11_make_39 (lv_at hl 5 rfl) ?_
      obtain ⟨g41, hf⟩ := br_g hf
      refine x_iald hx hb hK hR (z_50 b) g41 dX11_make_41 ?_
      refine lv_topi (fun v42 e42 => ?_)
      have hf := nx_at e42 hf
      refine lv_istore (lv' := [(6, .int v42), (0, .ref (eB E + 47)), (1, .int x1), (2, .int x2), (3, .int x3), (4, .int x4), (5, .int x5)]) hx hb dX11_make_42 hl (by decide) rfl (fun ls hl => ?_)
      refine lv_aload_n hx hb dX11_make_44 rfl (lv_at hl 1 rfl) ?_
      refine x_get hx hb hown hts hK hR kX11 (z_47 b) (j := 7) (by decide) fl_X11_18 (v := .ref (eB E + 52)) rfl dX11_make_45 ?_
      refine lv_iconst (v := 0) hx hb dX11_make_48 (by decide) ?_
      refine x_aald5 hx hb hK hR (z_52 b) (by decide) (r := 53) rfl dX11_make_49 ?_
      refine lv_iload hx hb dX11_make_50 (lv_at hl 6 rfl) ?_
      obtain ⟨g52, hf⟩ := br_g hf
      refine x_iald hx hb hK hR (z_53 b) g52 dX11_make_52 ?_
      refine lv_topi (fun v53 e53 => ?_)
      have hf := nx_at e53 hf
      refine lv_istore (lv' := [(7, .int v53), (6, .int v42), (0, .ref (eB E + 47)), (1, .int x1), (2, .int x2), (3, .int x3), (4, .int x4), (5, .int x5)]) hx hb dX11_make_53 hl (by decide) rfl (fun ls hl => ?_)
      refine lv_iconst (v := 0) hx hb dX11_make_55 (by decide) ?_
      refine lv_istore (lv' := [(8, .int (0 : Int32)), (7, .int v53), (6, .int v42), (0, .ref (eB E + 47)), (1, .int x1), (2, .int x2), (3, .int x3), (4, .int x4), (5, .int x5)]) hx hb dX11_make_56 hl (by decide) rfl (fun ls hl => ?_)
      exact wX11_make_58 X (fun hf hR hl => wX11_make_215 X (fun hf hR hl => ih hf hR hl) (fun hf hR hl => hk221 hf hR hl) hf hR hl) FU hf hR (lv_sub hl [3, 4, 5, 6, 7, 8, 2, 1, 0] rfl)
set_option maxHeartbeats 4000000 in
set_option maxRecDepth 100000 in
theorem wX11_make_249 {r : Int32} {M1 : Mem} (X : CX E p s m args c meth cX11_make 12 (some .int) RX11) : ∀ {s0 : Int32} {M : Mem} {H : Heap} {locs : List Loc} {ls : Array Slot}, fX11_make_249 s0 M = some (r, M1) → Rl E (sh_ b) (nn b) s.heap M H locs → lv_has ls 12 [] → W p l e (rm 9 0 0) s m args below meth c H locs 0 0 (MQ below (qq E (some (.int r)) (sh_ b) (nn b) M1) args s 0 0 (fr E)) (F0 m 249 ls [.int s0]) := by
  obtain ⟨hx, hb, hr, hml, hown, hts, hK, hN, hO, hlk, hbs⟩ := id X
  intro s0 M H locs ls hf hR hl
  unfold fX11_make_249 at hf
  cases hf
  exact x_iret hx hb hr hlk hR dX11_make_249
set_option maxHeartbeats 4000000 in
set_option maxRecDepth 100000 in
theorem wX11_make_221 {r : Int32} {M1 : Mem} (X : CX E p s m args c meth cX11_make 12 (some .int) RX11) : ∀ {x1 : Int32} {x2 : Int32} {x3 : Int32} {x4 : Int32} {M : Mem} {H : Heap} {locs : List Loc} {ls : Array Slot}, fX11_make_221 x1 x2 x3 x4 M = some (r, M1) → Rl E (sh_ b) (nn b) s.heap M H locs → lv_has ls 12 [(1, .int x1), (2, .int x2), (3, .int x3), (4, .int x4)] → W p l e (rm 9 0 0) s m args below meth c H locs 0 0 (MQ below (qq E (some (.int r)) (sh_ b) (nn b) M1) args s 0 0 (fr E)) (F0 m 221 ls []) := by
  obtain ⟨hx, hb, hr, hml, hown, hts, hK, hN, hO, hlk, hbs⟩ := id X
  intro x1 x2 x3 x4 M H locs ls hf hR hl
  unfold fX11_make_221 at hf
  refine lv_iload_n hx hb dX11_make_221 rfl (lv_at hl 1 rfl) ?_
  refine lv_iconst (v := -1) hx hb dX11_make_222 (by decide) ?_
  refine lv_icmp_ne (tgt := 230) hx hb dX11_make_223 (by decide) (fun q223 => ?_) (fun q223 => ?_)
  · have hf := (br_if hf).2 q223
    refine lv_iload_n hx hb dX11_make_230 rfl (lv_at hl 0 rfl) ?_
    refine lv_if_ne (tgt := 238) hx hb dX11_make_231 (by decide) (fun q231 => ?_) (fun q231 => ?_)
    · have hf := (br_if hf).2 q231
      refine lv_iload_n hx hb dX11_make_238 rfl (lv_at hl 0 rfl) ?_
      refine lv_iconst (v := 1) hx hb dX11_make_239 (by decide) ?_
      refine lv_icmp_ne (tgt := 247) hx hb dX11_make_240 (by decide) (fun q240 => ?_) (fun q240 => ?_)
      · have hf := (br_if hf).2 q240
        refine lv_iload hx hb dX11_make_247 (lv_at hl 3 rfl) ?_
        exact wX11_make_249 X hf hR (lv_sub hl [] rfl)
      · have hf := (br_if hf).1 q240
        refine lv_iload_n hx hb dX11_make_243 rfl (lv_at hl 2 rfl) ?_
        refine lv_goto (tgt := 249) hx hb dX11_make_244 (by decide) ?_
        exact wX11_make_249 X hf hR (lv_sub hl [] rfl)
    · have hf := (br_if hf).1 q231
      refine lv_iload_n hx hb dX11_make_234 rfl (lv_at hl 1 rfl) ?_
      refine lv_goto (tgt := 249) hx hb dX11_make_235 (by decide) ?_
      exact wX11_make_249 X hf hR (lv_sub hl [] rfl)
  · have hf := (br_if hf).1 q223
    refine lv_iconst (v := -1) hx hb dX11_make_226 (by decide) ?_
    refine lv_goto (tgt := 249) hx hb dX11_make_227 (by decide) ?_
    exact wX11_make_249 X hf hR (lv_sub hl [] rfl)
set_option maxHeartbeats 4000000 in
set_option maxRecDepth 100000 in
theorem wX11_make_0 {r : Int32} {M1 : Mem} (X : CX E p s m args c meth cX11_make 12 (some .int) RX11) : ∀ {x1 : Int32} {M : Mem} {H : Heap} {locs : List Loc} {ls : Array Slot}, fX11_make x1 M = some (r, M1) → Rl E (sh_ b) (nn b) s.heap M H locs → lv_has ls 12 [(0, .ref (eB E + 47)), (1, .int x1)] → W p l e (rm 9 0 0) s m args below meth c H locs 0 0 (MQ below (qq E (some (.int r)) (sh_ b) (nn b) M1) args s 0 0 (fr E)) (F0 m 0 ls []) := by
  obtain ⟨hx, hb, hr, hml, hown, hts, hK, hN, hO, hlk, hbs⟩ := id X
  intro x1 M H locs ls hf hR hl
  unfold fX11_make at hf
  refine lv_iload_n hx hb dX11_make_0 rfl (lv_at hl 1 rfl) ?_
  refine lv_i2l (v := x1.toInt64) hx hb dX11_make_1 rfl ?_
  refine lv_lconst (v := 0) hx hb dX11_make_2 (by decide) ?_
  refine lv_ldc2 hx hb hown (hts _ kl_X11_331) dX11_make_3 ?_
  obtain ⟨q6, c6, hf⟩ := br_b hf
  refine x_callS (As := [.long x1.toInt64, .long (0 : Int64), .long (2 : Int64)]) (rest := []) (st1 := [.int q6]) X hR (ctX11_in c6) ml_X11_122 st_X11_in in_X11 co_X11_in yo_X11_in (rm_ok (by decide) (by decide)) rfl hl.1 rfl rfl (Nat.le_of_ble_eq_true rfl) dX11_make_6 ⟨Nat.zero_le _, Nat.zero_le _⟩ (fun H locs hR => ?_)
  refine lv_if_ne (tgt := 14) hx hb dX11_make_9 (by decide) (fun q9 => ?_) (fun q9 => ?_)
  · have hf := (br_if hf).2 q9
    refine lv_iconst (v := -1) hx hb dX11_make_14 (by decide) ?_
    refine lv_istore_n (lv' := [(2, .int (-1 : Int32)), (0, .ref (eB E + 47)), (1, .int x1)]) hx hb dX11_make_15 rfl hl (by decide) rfl (fun ls hl => ?_)
    refine lv_iconst (v := -1) hx hb dX11_make_16 (by decide) ?_
    refine lv_istore_n (lv' := [(3, .int (-1 : Int32)), (2, .int (-1 : Int32)), (0, .ref (eB E + 47)), (1, .int x1)]) hx hb dX11_make_17 rfl hl (by decide) rfl (fun ls hl => ?_)
    refine lv_iconst (v := 0) hx hb dX11_make_18 (by decide) ?_
    refine lv_istore (lv' := [(4, .int (0 : Int32)), (3, .int (-1 : Int32)), (2, .int (-1 : Int32)), (0, .ref (eB E + 47)), (1, .int x1)]) hx hb dX11_make_19 hl (by decide) rfl (fun ls hl => ?_)
    refine lv_iconst (v := 0) hx hb dX11_make_21 (by decide) ?_
    refine lv_istore (lv' := [(5, .int (0 : Int32)), (4, .int (0 : Int32)), (3, .int (-1 : Int32)), (2, .int (-1 : Int32)), (0, .ref (eB E + 47)), (1, .int x1)]) hx hb dX11_make_22 hl (by decide) rfl (fun ls hl => ?_)
    exact wX11_make_24 X (fun hf hR hl => wX11_make_221 X hf hR hl) FU hf hR (lv_sub hl [4, 5, 3, 2, 1, 0] rfl)
  · have hf := (br_if hf).1 q9
    refine lv_iconst (v := -1) hx hb dX11_make_12 (by decide) ?_
    cases hf
    exact x_iret hx hb hr hlk hR dX11_make_13
theorem ctX11_make {l : Launch} {E : Ge} {b : Bool} {M : Mem} {x1 : Int32} {r : Int32} {M1 : Mem} (h : fX11_make x1 M = some (r, M1)) : CT l E yX11_make cX11_make 12 (some .int) 9 0 0 [.ref (eB E + 47), .int x1] (some (.int r)) (sh_ b) (nn b) M (sh_ b) (nn b) M1 := by
  refine met_of (by decide) (Nat.le_of_ble_eq_true rfl) ?_
  intro p e s m args below meth c X _ hR ls hl
  exact wX11_make_0 X h hR hl
def fX11_meet_148 (M : Mem) (s0 : Int32) : Option Int32 := some (s0 &&& 1)
def fX11_meet (M : Mem) (x1 : Int32) (x2 : Int32) (x3 : Int32) : Option Int32 := (if inb x1 105 = true then (if inb x2 105 = true then (if inb x2 105 = true then (if inb x1 105 = true then nx (((M.1 79 (ix x1)).toInt64 * (M.1 80 (ix x2)).toInt64) - ((M.1 79 (ix x2)).toInt64 * (M.1 80 (ix x1)).toInt64)) (fun v31 => (if (lg_cmp v31 (0 : Int64)) = 0 then some (0 : Int32) else (if inb x1 105 = true then (if inb x2 105 = true then (if inb x2 105 = true then (if inb x1 105 = true then nx (((M.1 81 (ix x1)).toInt64 * (M.1 80 (ix x2)).toInt64) - ((M.1 81 (ix x2)).toInt64 * (M.1 80 (ix x1)).toInt64)) (fun v73 => (if inb x1 105 = true then (if inb x2 105 = true then (if inb x2 105 = true then (if inb x1 105 = true then nx (((M.1 79 (ix x1)).toInt64 * (M.1 81 (ix x2)).toInt64) - ((M.1 79 (ix x2)).toInt64 * (M.1 81 (ix x1)).toInt64)) (fun v106 => (if inb x3 105 = true then (if inb x3 105 = true then (if inb x3 105 = true then (if (lg_cmp (((M.1 79 (ix x3)).toInt64 * v73) + ((M.1 80 (ix x3)).toInt64 * v106)) ((M.1 81 (ix x3)).toInt64 * v31)) = 0 then fX11_meet_148 M (1 : Int32) else fX11_meet_148 M (0 : Int32)) else none) else none) else none)) else none) else none) else none) else none)) else none) else none) else none) else none))) else none) else none) else none) else none)
set_option maxHeartbeats 4000000 in
set_option maxRecDepth 100000 in
theorem wX11_meet_148 {r : Int32} {M : Mem} (X : CX E p s m args c meth cX11_meet 10 (some .boolean) RX11) : ∀ {s0 : Int32} {H : Heap} {locs : List Loc} {ls : Array Slot}, fX11_meet_148 M s0 = some r → Rl E (sh_ b) (nn b) s.heap M H locs → lv_has ls 10 [] → W p l e (rm 1 0 0) s m args below meth c H locs 0 0 (MQ below (qq E (some (.int r)) (sh_ b) (nn b) M) args s 0 0 (fr E)) (F0 m 148 ls [.int s0]) := by
  obtain ⟨hx, hb, hr, hml, hown, hts, hK, hN, hO, hlk, hbs⟩ := id X
  intro s0 H locs ls hf hR hl
  unfold fX11_meet_148 at hf
  cases hf
  exact x_zret hx hb hr hlk hR rfl dX11_meet_148
set_option maxHeartbeats 4000000 in
set_option maxRecDepth 100000 in
theorem wX11_meet_0 {r : Int32} {M : Mem} (X : CX E p s m args c meth cX11_meet 10 (some .boolean) RX11) : ∀ {x1 : Int32} {x2 : Int32} {x3 : Int32} {H : Heap} {locs : List Loc} {ls : Array Slot}, fX11_meet M x1 x2 x3 = some r → Rl E (sh_ b) (nn b) s.heap M H locs → lv_has ls 10 [(0, .ref (eB E + 47)), (1, .int x1), (2, .int x2), (3, .int x3)] → W p l e (rm 1 0 0) s m args below meth c H locs 0 0 (MQ below (qq E (some (.int r)) (sh_ b) (nn b) M) args s 0 0 (fr E)) (F0 m 0 ls []) := by
  obtain ⟨hx, hb, hr, hml, hown, hts, hK, hN, hO, hlk, hbs⟩ := id X
  intro x1 x2 x3 H locs ls hf hR hl
  unfold fX11_meet at hf
  refine lv_aload_n hx hb dX11_meet_0 rfl (lv_at hl 0 rfl) ?_
  refine x_get hx hb hown hts hK hR kX11 (z_47 b) (j := 24) (by decide) fl_X11_69 (v := .ref (eB E + 79)) rfl dX11_meet_1 ?_
  refine lv_iload_n hx hb dX11_meet_4 rfl (lv_at hl 1 rfl) ?_
  obtain ⟨g5, hf⟩ := br_g hf
  refine x_iald hx hb hK hR (z_79 b) g5 dX11_meet_5 ?_
  refine lv_i2l (v := (M.1 79 (ix x1)).toInt64) hx hb dX11_meet_6 rfl ?_
  refine lv_aload_n hx hb dX11_meet_7 rfl (lv_at hl 0 rfl) ?_
  refine x_get hx hb hown hts hK hR kX11 (z_47 b) (j := 25) (by decide) fl_X11_72 (v := .ref (eB E + 80)) rfl dX11_meet_8 ?_
  refine lv_iload_n hx hb dX11_meet_11 rfl (lv_at hl 2 rfl) ?_
  obtain ⟨g12, hf⟩ := br_g hf
  refine x_iald hx hb hK hR (z_80 b) g12 dX11_meet_12 ?_
  refine lv_i2l (v := (M.1 80 (ix x2)).toInt64) hx hb dX11_meet_13 rfl ?_
  refine lv_lmul hx hb dX11_meet_14 ?_
  refine lv_aload_n hx hb dX11_meet_15 rfl (lv_at hl 0 rfl) ?_
  refine x_get hx hb hown hts hK hR kX11 (z_47 b) (j := 24) (by decide) fl_X11_69 (v := .ref (eB E + 79)) rfl dX11_meet_16 ?_
  refine lv_iload_n hx hb dX11_meet_19 rfl (lv_at hl 2 rfl) ?_
  obtain ⟨g20, hf⟩ := br_g hf
  refine x_iald hx hb hK hR (z_79 b) g20 dX11_meet_20 ?_
  refine lv_i2l (v := (M.1 79 (ix x2)).toInt64) hx hb dX11_meet_21 rfl ?_
  refine lv_aload_n hx hb dX11_meet_22 rfl (lv_at hl 0 rfl) ?_
  refine x_get hx hb hown hts hK hR kX11 (z_47 b) (j := 25) (by decide) fl_X11_72 (v := .ref (eB E + 80)) rfl dX11_meet_23 ?_
  refine lv_iload_n hx hb dX11_meet_26 rfl (lv_at hl 1 rfl) ?_
  obtain ⟨g27, hf⟩ := br_g hf
  refine x_iald hx hb hK hR (z_80 b) g27 dX11_meet_27 ?_
  refine lv_i2l (v := (M.1 80 (ix x1)).toInt64) hx hb dX11_meet_28 rfl ?_
  refine lv_lmul hx hb dX11_meet_29 ?_
  refine lv_lsub hx hb dX11_meet_30 ?_
  refine lv_topl (fun v31 e31 => ?_)
  have hf := nx_at e31 hf
  refine lv_lstore (lv' := [(4, .long v31), (0, .ref (eB E + 47)), (1, .int x1), (2, .int x2), (3, .int x3)]) hx hb dX11_meet_31 hl (by decide) rfl (fun ls hl => ?_)
  refine lv_lload hx hb dX11_meet_33 (lv_at hl 0 rfl) ?_
  refine lv_lconst (v := 0) hx hb dX11_meet_35 (by decide) ?_
  refine W.lcmp hx hb dX11_meet_36 ?_
  refine lv_if_ne (tgt := 42) hx hb dX11_meet_37 (by decide) (fun q37 => ?_) (fun q37 => ?_)
  · have hf := (br_if hf).2 q37
    refine lv_aload_n hx hb dX11_meet_42 rfl (lv_at hl 1 rfl) ?_
    refine x_get hx hb hown hts hK hR kX11 (z_47 b) (j := 26) (by decide) fl_X11_75 (v := .ref (eB E + 81)) rfl dX11_meet_43 ?_
    refine lv_iload_n hx hb dX11_meet_46 rfl (lv_at hl 2 rfl) ?_
    obtain ⟨g47, hf⟩ := br_g hf
    refine x_iald hx hb hK hR (z_81 b) g47 dX11_meet_47 ?_
    refine lv_i2l (v := (M.1 81 (ix x1)).toInt64) hx hb dX11_meet_48 rfl ?_
    refine lv_aload_n hx hb dX11_meet_49 rfl (lv_at hl 1 rfl) ?_
    refine x_get hx hb hown hts hK hR kX11 (z_47 b) (j := 25) (by decide) fl_X11_72 (v := .ref (eB E + 80)) rfl dX11_meet_50 ?_
    refine lv_iload_n hx hb dX11_meet_53 rfl (lv_at hl 3 rfl) ?_
    obtain ⟨g54, hf⟩ := br_g hf
    refine x_iald hx hb hK hR (z_80 b) g54 dX11_meet_54 ?_
    refine lv_i2l (v := (M.1 80 (ix x2)).toInt64) hx hb dX11_meet_55 rfl ?_
    refine lv_lmul hx hb dX11_meet_56 ?_
    refine lv_aload_n hx hb dX11_meet_57 rfl (lv_at hl 1 rfl) ?_
    refine x_get hx hb hown hts hK hR kX11 (z_47 b) (j := 26) (by decide) fl_X11_75 (v := .ref (eB E + 81)) rfl dX11_meet_58 ?_
    refine lv_iload_n hx hb dX11_meet_61 rfl (lv_at hl 3 rfl) ?_
    obtain ⟨g62, hf⟩ := br_g hf
    refine x_iald hx hb hK hR (z_81 b) g62 dX11_meet_62 ?_
    refine lv_i2l (v := (M.1 81 (ix x2)).toInt64) hx hb dX11_meet_63 rfl ?_
    refine lv_aload_n hx hb dX11_meet_64 rfl (lv_at hl 1 rfl) ?_
    refine x_get hx hb hown hts hK hR kX11 (z_47 b) (j := 25) (by decide) fl_X11_72 (v := .ref (eB E + 80)) rfl dX11_meet_65 ?_
    refine lv_iload_n hx hb dX11_meet_68 rfl (lv_at hl 2 rfl) ?_
    obtain ⟨g69, hf⟩ := br_g hf
    refine x_iald hx hb hK hR (z_80 b) g69 dX11_meet_69 ?_
    refine lv_i2l (v := (M.1 80 (ix x1)).toInt64) hx hb dX11_meet_70 rfl ?_
    refine lv_lmul hx hb dX11_meet_71 ?_
    refine lv_lsub hx hb dX11_meet_72 ?_
    refine lv_topl (fun v73 e73 => ?_)
    have hf := nx_at e73 hf
    refine lv_lstore (lv' := [(6, .long v73), (4, .long v31), (0, .ref (eB E + 47)), (1, .int x1), (2, .int x2), (3, .int x3)]) hx hb dX11_meet_73 hl (by decide) rfl (fun ls hl => ?_)
    refine lv_aload_n hx hb dX11_meet_75 rfl (lv_at hl 2 rfl) ?_
    refine x_get hx hb hown hts hK hR kX11 (z_47 b) (j := 24) (by decide) fl_X11_69 (v := .ref (eB E + 79)) rfl dX11_meet_76 ?_
    refine lv_iload_n hx hb dX11_meet_79 rfl (lv_at hl 3 rfl) ?_
    obtain ⟨g80, hf⟩ := br_g hf
    refine x_iald hx hb hK hR (z_79 b) g80 dX11_meet_80 ?_
    refine lv_i2l (v := (M.1 79 (ix x1)).toInt64) hx hb dX11_meet_81 rfl ?_
    refine lv_aload_n hx hb dX11_meet_82 rfl (lv_at hl 2 rfl) ?_
    refine x_get hx hb hown hts hK hR kX11 (z_47 b) (j := 26) (by decide) fl_X11_75 (v := .ref (eB E + 81)) rfl dX11_meet_83 ?_
    refine lv_iload_n hx hb dX11_meet_86 rfl (lv_at hl 4 rfl) ?_
    obtain ⟨g87, hf⟩ := br_g hf
    refine x_iald hx hb hK hR (z_81 b) g87 dX11_meet_87 ?_
    refine lv_i2l (v := (M.1 81 (ix x2)).toInt64) hx hb dX11_meet_88 rfl ?_
    refine lv_lmul hx hb dX11_meet_89 ?_
    refine lv_aload_n hx hb dX11_meet_90 rfl (lv_at hl 2 rfl) ?_
    refine x_get hx hb hown hts hK hR kX11 (z_47 b) (j := 24) (by decide) fl_X11_69 (v := .ref (eB E + 79)) rfl dX11_meet_91 ?_
    refine lv_iload_n hx hb dX11_meet_94 rfl (lv_at hl 4 rfl) ?_
    obtain ⟨g95, hf⟩ := br_g hf
    refine x_iald hx hb hK hR (z_79 b) g95 dX11_meet_95 ?_
    refine lv_i2l (v := (M.1 79 (ix x2)).toInt64) hx hb dX11_meet_96 rfl ?_
    refine lv_aload_n hx hb dX11_meet_97 rfl (lv_at hl 2 rfl) ?_
    refine x_get hx hb hown hts hK hR kX11 (z_47 b) (j := 26) (by decide) fl_X11_75 (v := .ref (eB E + 81)) rfl dX11_meet_98 ?_
    refine lv_iload_n hx hb dX11_meet_101 rfl (lv_at hl 3 rfl) ?_
    obtain ⟨g102, hf⟩ := br_g hf
    refine x_iald hx hb hK hR (z_81 b) g102 dX11_meet_102 ?_
    refine lv_i2l (v := (M.1 81 (ix x1)).toInt64) hx hb dX11_meet_103 rfl ?_
    refine lv_lmul hx hb dX11_meet_104 ?_
    refine lv_lsub hx hb dX11_meet_105 ?_
    refine lv_topl (fun v106 e106 => ?_)
    have hf := nx_at e106 hf
    refine lv_lstore (lv' := [(8, .long v106), (6, .long v73), (4, .long v31), (0, .ref (eB E + 47)), (1, .int x1), (2, .int x2), (3, .int x3)]) hx hb dX11_meet_106 hl (by decide) rfl (fun ls hl => ?_)
    refine lv_aload_n hx hb dX11_meet_108 rfl (lv_at hl 3 rfl) ?_
    refine x_get hx hb hown hts hK hR kX11 (z_47 b) (j := 24) (by decide) fl_X11_69 (v := .ref (eB E + 79)) rfl dX11_meet_109 ?_
    refine lv_iload_n hx hb dX11_meet_112 rfl (lv_at hl 6 rfl) ?_
    obtain ⟨g113, hf⟩ := br_g hf
    refine x_iald hx hb hK hR (z_79 b) g113 dX11_meet_113 ?_
    refine lv_i2l (v := (M.1 79 (ix x3)).toInt64) hx hb dX11_meet_114 rfl ?_
    refine lv_lload hx hb dX11_meet_115 (lv_at hl 1 rfl) ?_
    refine lv_lmul hx hb dX11_meet_117 ?_
    refine lv_aload_n hx hb dX11_meet_118 rfl (lv_at hl 3 rfl) ?_
    refine x_get hx hb hown hts hK hR kX11 (z_47 b) (j := 25) (by decide) fl_X11_72 (v := .ref (eB E + 80)) rfl dX11_meet_119 ?_
    refine lv_iload_n hx hb dX11_meet_122 rfl (lv_at hl 6 rfl) ?_
    obtain ⟨g123, hf⟩ := br_g hf
    refine x_iald hx hb hK hR (z_80 b) g123 dX11_meet_123 ?_
    refine lv_i2l (v := (M.1 80 (ix x3)).toInt64) hx hb dX11_meet_124 rfl ?_
    refine lv_lload hx hb dX11_meet_125 (lv_at hl 0 rfl) ?_
    refine lv_lmul hx hb dX11_meet_127 ?_
    refine lv_ladd hx hb dX11_meet_128 ?_
    refine lv_aload_n hx hb dX11_meet_129 rfl (lv_at hl 3 rfl) ?_
    refine x_get hx hb hown hts hK hR kX11 (z_47 b) (j := 26) (by decide) fl_X11_75 (v := .ref (eB E + 81)) rfl dX11_meet_130 ?_
    refine lv_iload_n hx hb dX11_meet_133 rfl (lv_at hl 6 rfl) ?_
    obtain ⟨g134, hf⟩ := br_g hf
    refine x_iald hx hb hK hR (z_81 b) g134 dX11_meet_134 ?_
    refine lv_i2l (v := (M.1 81 (ix x3)).toInt64) hx hb dX11_meet_135 rfl ?_
    refine lv_lload hx hb dX11_meet_136 (lv_at hl 2 rfl) ?_
    refine lv_lmul hx hb dX11_meet_138 ?_
    refine W.lcmp hx hb dX11_meet_139 ?_
    refine lv_if_ne (tgt := 147) hx hb dX11_meet_140 (by decide) (fun q140 => ?_) (fun q140 => ?_)
    · have hf := (br_if hf).2 q140
      refine lv_iconst (v := 0) hx hb dX11_meet_147 (by decide) ?_
      exact wX11_meet_148 X hf hR (lv_sub hl [] rfl)
    · have hf := (br_if hf).1 q140
      refine lv_iconst (v := 1) hx hb dX11_meet_143 (by decide) ?_
      refine lv_goto (tgt := 148) hx hb dX11_meet_144 (by decide) ?_
      exact wX11_meet_148 X hf hR (lv_sub hl [] rfl)
  · have hf := (br_if hf).1 q37
    refine lv_iconst (v := 0) hx hb dX11_meet_40 (by decide) ?_
    cases hf
    exact x_zret hx hb hr hlk hR (by decide) dX11_meet_41
theorem ctX11_meet {l : Launch} {E : Ge} {b : Bool} {M : Mem} {x1 : Int32} {x2 : Int32} {x3 : Int32} {r : Int32} (h : fX11_meet M x1 x2 x3 = some r) : CT l E yX11_meet cX11_meet 10 (some .boolean) 1 0 0 [.ref (eB E + 47), .int x1, .int x2, .int x3] (some (.int r)) (sh_ b) (nn b) M (sh_ b) (nn b) M := by
  refine met_of (by decide) (Nat.le_of_ble_eq_true rfl) ?_
  intro p e s m args below meth c X _ hR ls hl
  exact wX11_meet_0 X h hR hl
def fX11_middle (x1 : Int32) (x2 : Int32) (M : Mem) : Option (Int32 × Mem) := (fX11_knows M).bind (fun q1 => (if x1 = (-1 : Int32) then some ((q1.1 47 28), q1) else (fX11_in q1 (x1.toInt64) (0 : Int64) (((q1.1 47 28) - (1 : Int32)).toInt64)).bind (fun q24 => (if q24 = 0 then some ((-2147483648 : Int32), q1) else (if x2 = (0 : Int32) then (if inb x1 5600 = true then some ((q1.2 82 (ix x1)).toInt32, q1) else none) else (if x2 = (1 : Int32) then (if inb x1 5600 = true then some ((q1.2 83 (ix x1)).toInt32, q1) else none) else (if x2 = (2 : Int32) then (if inb x1 5600 = true then some ((q1.2 84 (ix x1)).toInt32, q1) else none) else some ((-2147483648 : Int32), q1))))))))
set_option maxHeartbeats 4000000 in
set_option maxRecDepth 100000 in
theorem wX11_middle_0 {r : Int32} {M1 : Mem} (X : CX E p s m args c meth cX11_middle 3 (some .int) RX11) : ∀ {x1 : Int32} {x2 : Int32} {M : Mem} {H : Heap} {locs : List Loc} {ls : Array Slot}, fX11_middle x1 x2 M = some (r, M1) → Rl E (sh_ b) (nn b) s.heap M H locs → lv_has ls 3 [(0, .ref (eB E + 47)), (1, .int x1), (2, .int x2)] → W p l e (rm 7 0 0) s m args below meth c H locs 0 0 (MQ below (qq E (some (.int r)) (sh_ b) (nn b) M1) args s 0 0 (fr E)) (F0 m 0 ls []) := by
  obtain ⟨hx, hb, hr, hml, hown, hts, hK, hN, hO, hlk, hbs⟩ := id X
  intro x1 x2 M H locs ls hf hR hl
  unfold fX11_middle at hf
  refine lv_aload_n hx hb dX11_middle_0 rfl (lv_at hl 0 rfl) ?_
  obtain ⟨q1, c1, hf⟩ := br_b hf
  refine x_callV (k := 47) (As := []) (rest := []) (st1 := []) X hR (ctX11_knows c1) ml_X11_313 im_X11_knows se_X11_knows in_X11 co_X11_knows yo_X11_knows rfl kX11 (z_47 b) (rm_ok (by decide) (by decide)) rfl hl.1 rfl rfl (Nat.le_of_ble_eq_true rfl) dX11_middle_1 ⟨Nat.zero_le _, Nat.zero_le _⟩ (fun H locs hR => ?_)
  refine lv_iload_n hx hb dX11_middle_4 rfl (lv_at hl 1 rfl) ?_
  refine lv_iconst (v := -1) hx hb dX11_middle_5 (by decide) ?_
  refine lv_icmp_ne (tgt := 14) hx hb dX11_middle_6 (by decide) (fun q6 => ?_) (fun q6 => ?_)
  · have hf := (br_if hf).2 q6
    refine lv_iload_n hx hb dX11_middle_14 rfl (lv_at hl 1 rfl) ?_
    refine lv_i2l (v := x1.toInt64) hx hb dX11_middle_15 rfl ?_
    refine lv_lconst (v := 0) hx hb dX11_middle_16 (by decide) ?_
    refine lv_aload_n hx hb dX11_middle_17 rfl (lv_at hl 0 rfl) ?_
    refine x_get hx hb hown hts hK hR kX11 (z_47 b) (j := 28) (by decide) fl_X11_317 (v := .int (q1.1 47 28)) rfl dX11_middle_18 ?_
    refine lv_iconst (v := 1) hx hb dX11_middle_21 (by decide) ?_
    refine lv_isub hx hb dX11_middle_22 ?_
    refine lv_i2l (v := ((q1.1 47 28) - (1 : Int32)).toInt64) hx hb dX11_middle_23 rfl ?_
    obtain ⟨q24, c24, hf⟩ := br_b hf
    refine x_callS (As := [.long x1.toInt64, .long (0 : Int64), .long ((q1.1 47 28) - (1 : Int32)).toInt64]) (rest := []) (st1 := [.int q24]) X hR (ctX11_in c24) ml_X11_122 st_X11_in in_X11 co_X11_in yo_X11_in (rm_ok (by decide) (by decide)) rfl hl.1 rfl rfl (Nat.le_of_ble_eq_true rfl) dX11_middle_24 ⟨Nat.zero_le _, Nat.zero_le _⟩ (fun H locs hR => ?_)
    refine lv_if_ne (tgt := 34) hx hb dX11_middle_27 (by decide) (fun q27 => ?_) (fun q27 => ?_)
    · have hf := (br_if hf).2 q27
      refine lv_iload_n hx hb dX11_middle_34 rfl (lv_at hl 2 rfl) ?_
      by_cases q35_0 : x2 = (0 : Int32)
      · have hf := (br_if hf).1 q35_0
        refine x_tsw (v := 0) (tgt := 60) hx hb dX11_middle_35 q35_0 (by decide) (by decide) (off := 25) (by decide) (by decide) ?_
        refine lv_aload_n hx hb dX11_middle_60 rfl (lv_at hl 0 rfl) ?_
        refine x_get hx hb hown hts hK hR kX11 (z_47 b) (j := 30) (by decide) fl_X11_78 (v := .ref (eB E + 82)) rfl dX11_middle_61 ?_
        refine lv_iload_n hx hb dX11_middle_64 rfl (lv_at hl 1 rfl) ?_
        obtain ⟨g65, hf⟩ := br_g hf
        refine x_lald hx hb hK hR (z_82 b) g65 dX11_middle_65 ?_
        refine lv_l2i (v := (q1.2 82 (ix x1)).toInt32) hx hb dX11_middle_66 rfl ?_
        cases hf
        exact x_iret hx hb hr hlk hR dX11_middle_67
      · have hf := (br_if hf).2 q35_0
        by_cases q35_1 : x2 = (1 : Int32)
        · have hf := (br_if hf).1 q35_1
          refine x_tsw (v := 1) (tgt := 68) hx hb dX11_middle_35 q35_1 (by decide) (by decide) (off := 33) (by decide) (by decide) ?_
          refine lv_aload_n hx hb dX11_middle_68 rfl (lv_at hl 0 rfl) ?_
          refine x_get hx hb hown hts hK hR kX11 (z_47 b) (j := 31) (by decide) fl_X11_82 (v := .ref (eB E + 83)) rfl dX11_middle_69 ?_
          refine lv_iload_n hx hb dX11_middle_72 rfl (lv_at hl 1 rfl) ?_
          obtain ⟨g73, hf⟩ := br_g hf
          refine x_lald hx hb hK hR (z_83 b) g73 dX11_middle_73 ?_
          refine lv_l2i (v := (q1.2 83 (ix x1)).toInt32) hx hb dX11_middle_74 rfl ?_
          cases hf
          exact x_iret hx hb hr hlk hR dX11_middle_75
        · have hf := (br_if hf).2 q35_1
          by_cases q35_2 : x2 = (2 : Int32)
          · have hf := (br_if hf).1 q35_2
            refine x_tsw (v := 2) (tgt := 76) hx hb dX11_middle_35 q35_2 (by decide) (by decide) (off := 41) (by decide) (by decide) ?_
            refine lv_aload_n hx hb dX11_middle_76 rfl (lv_at hl 0 rfl) ?_
            refine x_get hx hb hown hts hK hR kX11 (z_47 b) (j := 32) (by decide) fl_X11_85 (v := .ref (eB E + 84)) rfl dX11_middle_77 ?_
            refine lv_iload_n hx hb dX11_middle_80 rfl (lv_at hl 1 rfl) ?_
            obtain ⟨g81, hf⟩ := br_g hf
            refine x_lald hx hb hK hR (z_84 b) g81 dX11_middle_81 ?_
            refine lv_l2i (v := (q1.2 84 (ix x1)).toInt32) hx hb dX11_middle_82 rfl ?_
            cases hf
            exact x_iret hx hb hr hlk hR dX11_middle_83
          · have hf := (br_if hf).2 q35_2
            refine lv_tableOut (tgt := 84) hx hb dX11_middle_35 (by have a0 := lv_neT q35_0 (show (0 : Int32).toInt = 0 from rfl); have a1 := lv_neT q35_1 (show (1 : Int32).toInt = 1 from rfl); have a2 := lv_neT q35_2 (show (2 : Int32).toInt = 2 from rfl); omega) (by decide) ?_
            refine lv_ldcw hx hb hown (hts _ ki_X11_316) dX11_middle_84 ?_
            cases hf
            exact x_iret hx hb hr hlk hR dX11_middle_87
    · have hf := (br_if hf).1 q27
      refine lv_ldcw hx hb hown (hts _ ki_X11_316) dX11_middle_30 ?_
      cases hf
      exact x_iret hx hb hr hlk hR dX11_middle_33
  · have hf := (br_if hf).1 q6
    refine lv_aload_n hx hb dX11_middle_9 rfl (lv_at hl 0 rfl) ?_
    refine x_get hx hb hown hts hK hR kX11 (z_47 b) (j := 28) (by decide) fl_X11_317 (v := .int (q1.1 47 28)) rfl dX11_middle_10 ?_
    cases hf
    exact x_iret hx hb hr hlk hR dX11_middle_13
theorem ctX11_middle {l : Launch} {E : Ge} {b : Bool} {M : Mem} {x1 : Int32} {x2 : Int32} {r : Int32} {M1 : Mem} (h : fX11_middle x1 x2 M = some (r, M1)) : CT l E yX11_middle cX11_middle 3 (some .int) 7 0 0 [.ref (eB E + 47), .int x1, .int x2] (some (.int r)) (sh_ b) (nn b) M (sh_ b) (nn b) M1 := by
  refine met_of (by decide) (Nat.le_of_ble_eq_true rfl) ?_
  intro p e s m args below meth c X _ hR ls hl
  exact wX11_middle_0 X h hR hl
def fX11_most_15 (M : Mem) : Option Int32 := some (-1 : Int32)
def fX11_most_22 (M : Mem) (k57 : Int32 → Option Int32) : Nat → Int32 → Int32 → Int32 → Int32 → Option Int32
  | 0, _, _, _, _ => none
  | n + 1, x1, x2, x3, x4 => (if (10000 : Int32) ≤ x4 then k57 x3 else (fX11_forOf M (x4 / (100 : Int32)) (irm x4 (100 : Int32)) x1 x2).bind (fun q44 => nx (imax x3 q44) (fun v50 => nx (x4 + (1 : Int32)) (fun v51 => fX11_most_22 M k57 n x1 x2 v50 v51))))
def fX11_most_57 (M : Mem) (x3 : Int32) : Option Int32 := some x3
def fX11_most (M : Mem) (x1 : Int32) (x2 : Int32) : Option Int32 := (fX11_voters M).bind (fun q1 => (if q1 = 0 then fX11_most_15 M else (fX11_isPoint M x1 x2).bind (fun q9 => (if q9 = 0 then fX11_most_15 M else fX11_most_22 M (fX11_most_57 M) FU x1 x2 (0 : Int32) (0 : Int32)))))
set_option maxHeartbeats 4000000 in
set_option maxRecDepth 100000 in
theorem wX11_most_15 {r : Int32} {M : Mem} (X : CX E p s m args c meth cX11_most 5 (some .int) RX11) : ∀ {H : Heap} {locs : List Loc} {ls : Array Slot}, fX11_most_15 M = some r → Rl E (sh_ b) (nn b) s.heap M H locs → lv_has ls 5 [] → W p l e (rm 5 0 0) s m args below meth c H locs 0 0 (MQ below (qq E (some (.int r)) (sh_ b) (nn b) M) args s 0 0 (fr E)) (F0 m 15 ls []) := by
  obtain ⟨hx, hb, hr, hml, hown, hts, hK, hN, hO, hlk, hbs⟩ := id X
  intro H locs ls hf hR hl
  unfold fX11_most_15 at hf
  refine lv_iconst (v := -1) hx hb dX11_most_15 (by decide) ?_
  cases hf
  exact x_iret hx hb hr hlk hR dX11_most_16
set_option maxHeartbeats 4000000 in
set_option maxRecDepth 100000 in
theorem wX11_most_22 {r : Int32} {M : Mem} {k57 : Int32 → Option Int32} (X : CX E p s m args c meth cX11_most 5 (some .int) RX11) (hk57 : ∀ {x3 : Int32} {H : Heap} {locs : List Loc} {ls : Array Slot}, k57 x3 = some r → Rl E (sh_ b) (nn b) s.heap M H locs → lv_has ls 5 [(3, .int x3)] → W p l e (rm 5 0 0) s m args below meth c H locs 0 0 (MQ below (qq E (some (.int r)) (sh_ b) (nn b) M) args s 0 0 (fr E)) (F0 m 57 ls [])) : ∀ (n : Nat) {x1 : Int32} {x2 : Int32} {x3 : Int32} {x4 : Int32} {H : Heap} {locs : List Loc} {ls : Array Slot}, fX11_most_22 M k57 n x1 x2 x3 x4 = some r → Rl E (sh_ b) (nn b) s.heap M H locs → lv_has ls 5 [(0, .ref (eB E + 47)), (1, .int x1), (2, .int x2), (3, .int x3), (4, .int x4)] → W p l e (rm 5 0 0) s m args below meth c H locs 0 0 (MQ below (qq E (some (.int r)) (sh_ b) (nn b) M) args s 0 0 (fr E)) (F0 m 22 ls []) := by
  obtain ⟨hx, hb, hr, hml, hown, hts, hK, hN, hO, hlk, hbs⟩ := id X
  intro n
  induction n with
  | zero =>
    intro x1 x2 x3 x4 H locs ls hf hR hl
    exact absurd (show none = some _ from hf) (fun h => by cases h)
  | succ n ih =>
    intro x1 x2 x3 x4 H locs ls hf hR hl
    rw [fX11_most_22] at hf
    refine lv_iload hx hb dX11_most_22 (lv_at hl 4 rfl) ?_
    refine lv_sipush (v := 10000) hx hb dX11_most_24 (by decide) ?_
    refine lv_icmp_ge (tgt := 57) hx hb dX11_most_27 (by decide) (fun q27 => ?_) (fun q27 => ?_)
    · have hf := (br_if hf).1 q27
      exact hk57 hf hR (lv_sub hl [3] rfl)
    · have hf := (br_if hf).2 q27
      refine lv_iload_n hx hb dX11_most_30 rfl (lv_at hl 3 rfl) ?_
      refine lv_aload_n hx hb dX11_most_31 rfl (lv_at hl 0 rfl) ?_
      refine lv_iload hx hb dX11_most_32 (lv_at hl 4 rfl) ?_
      refine lv_bipush (v := 100) hx hb dX11_most_34 (by decide) ?_
      refine lv_idiv hx hb dX11_most_36 (by decide) ?_
      refine lv_iload hx hb dX11_most_37 (lv_at hl 4 rfl) ?_
      refine lv_bipush (v := 100) hx hb dX11_most_39 (by decide) ?_
      refine lv_irem hx hb dX11_most_41 (by decide) ?_
      refine W.eq (g2 := F0 m 42 ls [.int (irm x4 (100 : Int32)), .int (x4 / (100 : Int32)), .ref (eB E + 47), .int x3]) rfl ?_
      refine lv_iload_n hx hb dX11_most_42 rfl (lv_at hl 1 rfl) ?_
      refine lv_iload_n hx hb dX11_most_43 rfl (lv_at hl 2 rfl) ?_
      obtain ⟨q44, c44, hf⟩ := br_b hf
      refine x_callV (k := 47) (As := [.int (x4 / (100 : Int32)), .int (irm x4 (100 : Int32)), .int x1, .int x2]) (rest := [.int x3]) (st1 := [.int q44, .int x3]) X hR (ctX11_forOf c44) ml_X11_269 im_X11_forOf se_X11_forOf in_X11 co_X11_forOf yo_X11_forOf rfl kX11 (z_47 b) (rm_ok (by decide) (by decide)) rfl hl.1 rfl rfl (Nat.le_of_ble_eq_true rfl) dX11_most_44 ⟨Nat.zero_le _, Nat.zero_le _⟩ (fun H locs hR => ?_)
      refine va_mmax hx hb (by rw [hml]; exact hl.1.symm) hown (hts _ ml_X11_192) (hts _ st_max) (hts _ in_J9) (hts _ co_max) (by decide) (Nat.le_of_ble_eq_true rfl) (Nat.zero_le _) (Nat.zero_le _) dX11_most_47 ?_
      refine W.eq (g2 := F0 m 50 ls [.int (imax x3 q44)]) rfl ?_
      refine lv_topi (fun v50 e50 => ?_)
      have hf := nx_at e50 hf
      refine lv_istore_n (lv' := [(3, .int v50), (0, .ref (eB E + 47)), (1, .int x1), (2, .int x2), (4, .int x4)]) hx hb dX11_most_50 rfl hl (by decide) rfl (fun ls hl => ?_)
      obtain ⟨v51, e51⟩ : ∃ y : Int32, y = (x4 + (1 : Int32)) := ⟨_, rfl⟩
      have hf := nx_at e51 hf
      refine lv_iinc (v := v51) (lv' := [(4, .int v51), (3, .int v50), (0, .ref (eB E + 47)), (1, .int x1), (2, .int x2)]) hx hb dX11_most_51 hl (k := 4) rfl (by rw [e51]; rfl) (by decide) rfl (fun ls hl => ?_)
      refine lv_goto (tgt := 22) hx hb dX11_most_54 (by decide) ?_
      exact ih hf hR (lv_sub hl [2, 3, 4, 1, 0] rfl)
set_option maxHeartbeats 4000000 in
set_option maxRecDepth 100000 in
theorem wX11_most_57 {r : Int32} {M : Mem} (X : CX E p s m args c meth cX11_most 5 (some .int) RX11) : ∀ {x3 : Int32} {H : Heap} {locs : List Loc} {ls : Array Slot}, fX11_most_57 M x3 = some r → Rl E (sh_ b) (nn b) s.heap M H locs → lv_has ls 5 [(3, .int x3)] → W p l e (rm 5 0 0) s m args below meth c H locs 0 0 (MQ below (qq E (some (.int r)) (sh_ b) (nn b) M) args s 0 0 (fr E)) (F0 m 57 ls []) := by
  obtain ⟨hx, hb, hr, hml, hown, hts, hK, hN, hO, hlk, hbs⟩ := id X
  intro x3 H locs ls hf hR hl
  unfold fX11_most_57 at hf
  refine lv_iload_n hx hb dX11_most_57 rfl (lv_at hl 0 rfl) ?_
  cases hf
  exact x_iret hx hb hr hlk hR dX11_most_58
set_option maxHeartbeats 4000000 in
set_option maxRecDepth 100000 in
theorem wX11_most_0 {r : Int32} {M : Mem} (X : CX E p s m args c meth cX11_most 5 (some .int) RX11) : ∀ {x1 : Int32} {x2 : Int32} {H : Heap} {locs : List Loc} {ls : Array Slot}, fX11_most M x1 x2 = some r → Rl E (sh_ b) (nn b) s.heap M H locs → lv_has ls 5 [(0, .ref (eB E + 47)), (1, .int x1), (2, .int x2)] → W p l e (rm 5 0 0) s m args below meth c H locs 0 0 (MQ below (qq E (some (.int r)) (sh_ b) (nn b) M) args s 0 0 (fr E)) (F0 m 0 ls []) := by
  obtain ⟨hx, hb, hr, hml, hown, hts, hK, hN, hO, hlk, hbs⟩ := id X
  intro x1 x2 H locs ls hf hR hl
  unfold fX11_most at hf
  refine lv_aload_n hx hb dX11_most_0 rfl (lv_at hl 0 rfl) ?_
  obtain ⟨q1, c1, hf⟩ := br_b hf
  refine x_callV (k := 47) (As := []) (rest := []) (st1 := [.int q1]) X hR (ctX11_voters c1) ml_X11_237 im_X11_voters se_X11_voters in_X11 co_X11_voters yo_X11_voters rfl kX11 (z_47 b) (rm_ok (by decide) (by decide)) rfl hl.1 rfl rfl (Nat.le_of_ble_eq_true rfl) dX11_most_1 ⟨Nat.zero_le _, Nat.zero_le _⟩ (fun H locs hR => ?_)
  refine lv_if_eq (tgt := 15) hx hb dX11_most_4 (by decide) (fun q4 => ?_) (fun q4 => ?_)
  · have hf := (br_if hf).1 q4
    exact wX11_most_15 X hf hR (lv_sub hl [] rfl)
  · have hf := (br_if hf).2 q4
    refine lv_iload_n hx hb dX11_most_7 rfl (lv_at hl 1 rfl) ?_
    refine lv_iload_n hx hb dX11_most_8 rfl (lv_at hl 2 rfl) ?_
    obtain ⟨q9, c9, hf⟩ := br_b hf
    refine x_callS (As := [.int x1, .int x2]) (rest := []) (st1 := [.int q9]) X hR (ctX11_isPoint c9) ml_X11_251 st_X11_isPoint in_X11 co_X11_isPoint yo_X11_isPoint (rm_ok (by decide) (by decide)) rfl hl.1 rfl rfl (Nat.le_of_ble_eq_true rfl) dX11_most_9 ⟨Nat.zero_le _, Nat.zero_le _⟩ (fun H locs hR => ?_)
    refine lv_if_ne (tgt := 17) hx hb dX11_most_12 (by decide) (fun q12 => ?_) (fun q12 => ?_)
    · have hf := (br_if hf).2 q12
      refine lv_iconst (v := 0) hx hb dX11_most_17 (by decide) ?_
      refine lv_istore_n (lv' := [(3, .int (0 : Int32)), (0, .ref (eB E + 47)), (1, .int x1), (2, .int x2)]) hx hb dX11_most_18 rfl hl (by decide) rfl (fun ls hl => ?_)
      refine lv_iconst (v := 0) hx hb dX11_most_19 (by decide) ?_
      refine lv_istore (lv' := [(4, .int (0 : Int32)), (3, .int (0 : Int32)), (0, .ref (eB E + 47)), (1, .int x1), (2, .int x2)]) hx hb dX11_most_20 hl (by decide) rfl (fun ls hl => ?_)
      exact wX11_most_22 X (fun hf hR hl => wX11_most_57 X hf hR hl) FU hf hR (lv_sub hl [2, 3, 4, 1, 0] rfl)
    · have hf := (br_if hf).1 q12
      exact wX11_most_15 X hf hR (lv_sub hl [] rfl)
theorem ctX11_most {l : Launch} {E : Ge} {b : Bool} {M : Mem} {x1 : Int32} {x2 : Int32} {r : Int32} (h : fX11_most M x1 x2 = some r) : CT l E yX11_most cX11_most 5 (some .int) 5 0 0 [.ref (eB E + 47), .int x1, .int x2] (some (.int r)) (sh_ b) (nn b) M (sh_ b) (nn b) M := by
  refine met_of (by decide) (Nat.le_of_ble_eq_true rfl) ?_
  intro p e s m args below meth c X _ hR ls hl
  exact wX11_most_0 X h hR hl
def fX11_move_49 (M : Mem) : Option (Int32 × Mem) := some ((-1 : Int32), M)
def fX11_move_40 (x1 : Int32) (x2 : Int32) (x3 : Int32) (M : Mem) : Option (Int32 × Mem) := (if (M.1 47 48) = (40 : Int32) then fX11_move_49 M else (if inb (M.1 47 48) 40 = true then nx (sI M (101 + ix (M.1 47 48)) (ix (0 : Int32)) x1) (fun M66 => (if inb x1 15 = true then nx (sI M66 (101 + ix (M.1 47 48)) (ix (1 : Int32)) (M66.1 50 (ix x1))) (fun M78 => (if inb x1 15 = true then nx (sI M78 (101 + ix (M.1 47 48)) (ix (2 : Int32)) (M78.1 53 (ix x1))) (fun M90 => nx (sI M90 (101 + ix (M.1 47 48)) (ix (3 : Int32)) x2) (fun M95 => nx (sI M95 (101 + ix (M.1 47 48)) (ix (4 : Int32)) x3) (fun M100 => (fX11_pairs M100).bind (fun q105 => nx (sI M100 (101 + ix (M.1 47 48)) (ix (5 : Int32)) q105) (fun M108 => (fX11_peace M108).bind (fun q114 => nx (sI M108 (101 + ix (M.1 47 48)) (ix (7 : Int32)) q114) (fun M117 => (if inb x1 15 = true then nx (sI M117 50 (ix x1) x2) (fun M126 => (if inb x1 15 = true then nx (sI M126 53 (ix x1) x3) (fun M135 => (fX11_pairs M135).bind (fun q141 => nx (sI M135 (101 + ix (M.1 47 48)) (ix (6 : Int32)) q141) (fun M144 => (fX11_peace M144).bind (fun q150 => nx (sI M144 (101 + ix (M.1 47 48)) (ix (8 : Int32)) q150) (fun M153 => nx (sI M153 47 48 ((M153.1 47 48) + (1 : Int32))) (fun M161 => nx (sI M161 47 29 (0 : Int32)) (fun M166 => some ((M166.1 47 48), M166)))))))) else none)) else none)))))))) else none)) else none)) else none))
def fX11_move (x1 : Int32) (x2 : Int32) (x3 : Int32) (M : Mem) : Option (Int32 × Mem) := (fX11_isVoter M x1).bind (fun q2 => (if q2 = 0 then fX11_move_49 M else (fX11_isPoint M x2 x3).bind (fun q10 => (if q10 = 0 then fX11_move_49 M else (if inb x1 15 = true then (if (M.1 50 (ix x1)) = x2 then (if inb x1 15 = true then (if (M.1 53 (ix x1)) = x3 then fX11_move_49 M else fX11_move_40 x1 x2 x3 M) else none) else fX11_move_40 x1 x2 x3 M) else none)))))
set_option maxHeartbeats 4000000 in
set_option maxRecDepth 100000 in
theorem wX11_move_49 {r : Int32} {M1 : Mem} (X : CX E p s m args c meth cX11_move 5 (some .int) RX11) : ∀ {M : Mem} {H : Heap} {locs : List Loc} {ls : Array Slot}, fX11_move_49 M = some (r, M1) → Rl E (sh_ b) (nn b) s.heap M H locs → lv_has ls 5 [] → W p l e (rm 9 0 0) s m args below meth c H locs 0 0 (MQ below (qq E (some (.int r)) (sh_ b) (nn b) M1) args s 0 0 (fr E)) (F0 m 49 ls []) := by
  obtain ⟨hx, hb, hr, hml, hown, hts, hK, hN, hO, hlk, hbs⟩ := id X
  intro M H locs ls hf hR hl
  unfold fX11_move_49 at hf
  refine lv_iconst (v := -1) hx hb dX11_move_49 (by decide) ?_
  cases hf
  exact x_iret hx hb hr hlk hR dX11_move_50
set_option maxHeartbeats 4000000 in
set_option maxRecDepth 100000 in
theorem wX11_move_40 {r : Int32} {M1 : Mem} (X : CX E p s m args c meth cX11_move 5 (some .int) RX11) : ∀ {x1 : Int32} {x2 : Int32} {x3 : Int32} {M : Mem} {H : Heap} {locs : List Loc} {ls : Array Slot}, fX11_move_40 x1 x2 x3 M = some (r, M1) → Rl E (sh_ b) (nn b) s.heap M H locs → lv_has ls 5 [(0, .ref (eB E + 47)), (1, .int x1), (2, .int x2), (3, .int x3)] → W p l e (rm 9 0 0) s m args below meth c H locs 0 0 (MQ below (qq E (some (.int r)) (sh_ b) (nn b) M1) args s 0 0 (fr E)) (F0 m 40 ls []) := by
  obtain ⟨hx, hb, hr, hml, hown, hts, hK, hN, hO, hlk, hbs⟩ := id X
  intro x1 x2 x3 M H locs ls hf hR hl
  unfold fX11_move_40 at hf
  refine lv_aload_n hx hb dX11_move_40 rfl (lv_at hl 0 rfl) ?_
  refine x_get hx hb hown hts hK hR kX11 (z_47 b) (j := 48) (by decide) fl_X11_231 (v := .int (M.1 47 48)) rfl dX11_move_41 ?_
  refine lv_bipush (v := 40) hx hb dX11_move_44 (by decide) ?_
  refine lv_icmp_ne (tgt := 51) hx hb dX11_move_46 (by decide) (fun q46 => ?_) (fun q46 => ?_)
  · have hf := (br_if hf).2 q46
    refine lv_aload_n hx hb dX11_move_51 rfl (lv_at hl 0 rfl) ?_
    refine x_get hx hb hown hts hK hR kX11 (z_47 b) (j := 47) (by decide) fl_X11_111 (v := .ref (eB E + 100)) rfl dX11_move_52 ?_
    refine lv_aload_n hx hb dX11_move_55 rfl (lv_at hl 0 rfl) ?_
    refine x_get hx hb hown hts hK hR kX11 (z_47 b) (j := 48) (by decide) fl_X11_231 (v := .int (M.1 47 48)) rfl dX11_move_56 ?_
    obtain ⟨g59, hf⟩ := br_g hf
    refine x_aald5 hx hb hK hR (z_100 b) g59 (r := (101 + ix (M.1 47 48))) (zq_100 g59) dX11_move_59 ?_
    refine lv_astore (lv' := [(4, .ref (eB E + (101 + ix (M.1 47 48)))), (0, .ref (eB E + 47)), (1, .int x1), (2, .int x2), (3, .int x3)]) hx hb dX11_move_60 hl (by decide) rfl (fun ls hl => ?_)
    refine lv_aload hx hb dX11_move_62 (lv_at hl 0 rfl) ?_
    refine lv_iconst (v := 0) hx hb dX11_move_64 (by decide) ?_
    refine lv_iload_n hx hb dX11_move_65 rfl (lv_at hl 2 rfl) ?_
    refine x_iast hx hb hK hR (zr_100 b g59) (by decide) dX11_move_66 (fun H locs hR => ?_)
    obtain ⟨M66, e66⟩ : ∃ y : Mem, y = (sI M (101 + ix (M.1 47 48)) (ix (0 : Int32)) x1) := ⟨_, rfl⟩
    have hf := nx_at e66 hf
    have hR : Rl E (sh_ b) (nn b) s.heap M66 H locs := by rw [e66]; exact hR
    refine lv_aload hx hb dX11_move_67 (lv_at hl 0 rfl) ?_
    refine lv_iconst (v := 1) hx hb dX11_move_69 (by decide) ?_
    refine lv_aload_n hx hb dX11_move_70 rfl (lv_at hl 1 rfl) ?_
    refine x_get hx hb hown hts hK hR kX11 (z_47 b) (j := 6) (by decide) fl_X11_15 (v := .ref (eB E + 49)) rfl dX11_move_71 ?_
    refine lv_iconst (v := 0) hx hb dX11_move_74 (by decide) ?_
    refine x_aald5 hx hb hK hR (z_49 b) (by decide) (r := 50) rfl dX11_move_75 ?_
    refine lv_iload_n hx hb dX11_move_76 rfl (lv_at hl 2 rfl) ?_
    obtain ⟨g77, hf⟩ := br_g hf
    refine x_iald hx hb hK hR (z_50 b) g77 dX11_move_77 ?_
    refine x_iast hx hb hK hR (zr_100 b g59) (by decide) dX11_move_78 (fun H locs hR => ?_)
    obtain ⟨M78, e78⟩ : ∃ y : Mem, y = (sI M66 (101 + ix (M.1 47 48)) (ix (1 : Int32)) (M66.1 50 (ix x1))) := ⟨_, rfl⟩
    have hf := nx_at e78 hf
    have hR : Rl E (sh_ b) (nn b) s.heap M78 H locs := by rw [e78]; exact hR
    refine lv_aload hx hb dX11_move_79 (lv_at hl 0 rfl) ?_
    refine lv_iconst (v := 2) hx hb dX11_move_81 (by decide) ?_
    refine lv_aload_n hx hb dX11_move_82 rfl (lv_at hl 1 rfl) ?_
    refine x_get hx hb hown hts hK hR kX11 (z_47 b) (j := 7) (by decide) fl_X11_18 (v := .ref (eB E + 52)) rfl dX11_move_83 ?_
    refine lv_iconst (v := 0) hx hb dX11_move_86 (by decide) ?_
    refine x_aald5 hx hb hK hR (z_52 b) (by decide) (r := 53) rfl dX11_move_87 ?_
    refine lv_iload_n hx hb dX11_move_88 rfl (lv_at hl 2 rfl) ?_
    obtain ⟨g89, hf⟩ := br_g hf
    refine x_iald hx hb hK hR (z_53 b) g89 dX11_move_89 ?_
    refine x_iast hx hb hK hR (zr_100 b g59) (by decide) dX11_move_90 (fun H locs hR => ?_)
    obtain ⟨M90, e90⟩ : ∃ y : Mem, y = (sI M78 (101 + ix (M.1 47 48)) (ix (2 : Int32)) (M78.1 53 (ix x1))) := ⟨_, rfl⟩
    have hf := nx_at e90 hf
    have hR : Rl E (sh_ b) (nn b) s.heap M90 H locs := by rw [e90]; exact hR
    refine lv_aload hx hb dX11_move_91 (lv_at hl 0 rfl) ?_
    refine lv_iconst (v := 3) hx hb dX11_move_93 (by decide) ?_
    refine lv_iload_n hx hb dX11_move_94 rfl (lv_at hl 3 rfl) ?_
    refine x_iast hx hb hK hR (zr_100 b g59) (by decide) dX11_move_95 (fun H locs hR => ?_)
    obtain ⟨M95, e95⟩ : ∃ y : Mem, y = (sI M90 (101 + ix (M.1 47 48)) (ix (3 : Int32)) x2) := ⟨_, rfl⟩
    have hf := nx_at e95 hf
    have hR : Rl E (sh_ b) (nn b) s.heap M95 H locs := by rw [e95]; exact hR
    refine lv_aload hx hb dX11_move_96 (lv_at hl 0 rfl) ?_
    refine lv_iconst (v := 4) hx hb dX11_move_98 (by decide) ?_
    refine lv_iload_n hx hb dX11_move_99 rfl (lv_at hl 4 rfl) ?_
    refine x_iast hx hb hK hR (zr_100 b g59) (by decide) dX11_move_100 (fun H locs hR => ?_)
    obtain ⟨M100, e100⟩ : ∃ y : Mem, y = (sI M95 (101 + ix (M.1 47 48)) (ix (4 : Int32)) x3) := ⟨_, rfl⟩
    have hf := nx_at e100 hf
    have hR : Rl E (sh_ b) (nn b) s.heap M100 H locs := by rw [e100]; exact hR
    refine lv_aload hx hb dX11_move_101 (lv_at hl 0 rfl) ?_
    refine lv_iconst (v := 5) hx hb dX11_move_103 (by decide) ?_
    refine lv_aload_n hx hb dX11_move_104 rfl (lv_at hl 1 rfl) ?_
    obtain ⟨q105, c105, hf⟩ := br_b hf
    refine x_callV (k := 47) (As := []) (rest := [.int (5 : Int32), .ref (eB E + (101 + ix (M.1 47 48)))]) (st1 := [.int q105, .int (5 : Int32), .ref (eB E + (101 + ix (M.1 47 48)))]) X hR (ctX11_pairs c105) ml_X11_427 im_X11_pairs se_X11_pairs in_X11 co_X11_pairs yo_X11_pairs rfl kX11 (z_47 b) (rm_ok (by decide) (by decide)) rfl hl.1 rfl rfl (Nat.le_of_ble_eq_true rfl) dX11_move_105 ⟨Nat.zero_le _, Nat.zero_le _⟩ (fun H locs hR => ?_)
    refine x_iast hx hb hK hR (zr_100 b g59) (by decide) dX11_move_108 (fun H locs hR => ?_)
    obtain ⟨M108, e108⟩ : ∃ y : Mem, y = (sI M100 (101 + ix (M.1 47 48)) (ix (5 : Int32)) q105) := ⟨_, rfl⟩
    have hf := nx_at e108 hf
    have hR : Rl E (sh_ b) (nn b) s.heap M108 H locs := by rw [e108]; exact hR
    refine lv_aload hx hb dX11_move_109 (lv_at hl 0 rfl) ?_
    refine lv_bipush (v := 7) hx hb dX11_move_111 (by decide) ?_
    refine lv_aload_n hx hb dX11_move_113 rfl (lv_at hl 1 rfl) ?_
    obtain ⟨q114, c114, hf⟩ := br_b hf
    refine x_callV (k := 47) (As := []) (rest := [.int (7 : Int32), .ref (eB E + (101 + ix (M.1 47 48)))]) (st1 := [.int q114, .int (7 : Int32), .ref (eB E + (101 + ix (M.1 47 48)))]) X hR (ctX11_peace c114) ml_X11_404 im_X11_peace se_X11_peace in_X11 co_X11_peace yo_X11_peace rfl kX11 (z_47 b) (rm_ok (by decide) (by decide)) rfl hl.1 rfl rfl (Nat.le_of_ble_eq_true rfl) dX11_move_114 ⟨Nat.zero_le _, Nat.zero_le _⟩ (fun H locs hR => ?_)
    refine x_iast hx hb hK hR (zr_100 b g59) (by decide) dX11_move_117 (fun H locs hR => ?_)
    obtain ⟨M117, e117⟩ : ∃ y : Mem, y = (sI M108 (101 + ix (M.1 47 48)) (ix (7 : Int32)) q114) := ⟨_, rfl⟩
    have hf := nx_at e117 hf
    have hR : Rl E (sh_ b) (nn b) s.heap M117 H locs := by rw [e117]; exact hR
    refine lv_aload_n hx hb dX11_move_118 rfl (lv_at hl 1 rfl) ?_
    refine x_get hx hb hown hts hK hR kX11 (z_47 b) (j := 6) (by decide) fl_X11_15 (v := .ref (eB E + 49)) rfl dX11_move_119 ?_
    refine lv_iconst (v := 0) hx hb dX11_move_122 (by decide) ?_
    refine x_aald5 hx hb hK hR (z_49 b) (by decide) (r := 50) rfl dX11_move_123 ?_
    refine lv_iload_n hx hb dX11_move_124 rfl (lv_at hl 2 rfl) ?_
    refine lv_iload_n hx hb dX11_move_125 rfl (lv_at hl 3 rfl) ?_
    obtain ⟨g126, hf⟩ := br_g hf
    refine x_iast hx hb hK hR (z_50 b) g126 dX11_move_126 (fun H locs hR => ?_)
    obtain ⟨M126, e126⟩ : ∃ y : Mem, y = (sI M117 50 (ix x1) x2) := ⟨_, rfl⟩
    have hf := nx_at e126 hf
    have hR : Rl E (sh_ b) (nn b) s.heap M126 H locs := by rw [e126]; exact hR
    refine lv_aload_n hx hb dX11_move_127 rfl (lv_at hl 1 rfl) ?_
    refine x_get hx hb hown hts hK hR kX11 (z_47 b) (j := 7) (by decide) fl_X11_18 (v := .ref (eB E + 52)) rfl dX11_move_128 ?_
    refine lv_iconst (v := 0) hx hb dX11_move_131 (by decide) ?_
    refine x_aald5 hx hb hK hR (z_52 b) (by decide) (r := 53) rfl dX11_move_132 ?_
    refine lv_iload_n hx hb dX11_move_133 rfl (lv_at hl 2 rfl) ?_
    refine lv_iload_n hx hb dX11_move_134 rfl (lv_at hl 4 rfl) ?_
    obtain ⟨g135, hf⟩ := br_g hf
    refine x_iast hx hb hK hR (z_53 b) g135 dX11_move_135 (fun H locs hR => ?_)
    obtain ⟨M135, e135⟩ : ∃ y : Mem, y = (sI M126 53 (ix x1) x3) := ⟨_, rfl⟩
    have hf := nx_at e135 hf
    have hR : Rl E (sh_ b) (nn b) s.heap M135 H locs := by rw [e135]; exact hR
    refine lv_aload hx hb dX11_move_136 (lv_at hl 0 rfl) ?_
    refine lv_bipush (v := 6) hx hb dX11_move_138 (by decide) ?_
    refine lv_aload_n hx hb dX11_move_140 rfl (lv_at hl 1 rfl) ?_
    obtain ⟨q141, c141, hf⟩ := br_b hf
    refine x_callV (k := 47) (As := []) (rest := [.int (6 : Int32), .ref (eB E + (101 + ix (M.1 47 48)))]) (st1 := [.int q141, .int (6 : Int32), .ref (eB E + (101 + ix (M.1 47 48)))]) X hR (ctX11_pairs c141) ml_X11_427 im_X11_pairs se_X11_pairs in_X11 co_X11_pairs yo_X11_pairs rfl kX11 (z_47 b) (rm_ok (by decide) (by decide)) rfl hl.1 rfl rfl (Nat.le_of_ble_eq_true rfl) dX11_move_141 ⟨Nat.zero_le _, Nat.zero_le _⟩ (fun H locs hR => ?_)
    refine x_iast hx hb hK hR (zr_100 b g59) (by decide) dX11_move_144 (fun H locs hR => ?_)
    obtain ⟨M144, e144⟩ : ∃ y : Mem, y = (sI M135 (101 + ix (M.1 47 48)) (ix (6 : Int32)) q141) := ⟨_, rfl⟩
    have hf := nx_at e144 hf
    have hR : Rl E (sh_ b) (nn b) s.heap M144 H locs := by rw [e144]; exact hR
    refine lv_aload hx hb dX11_move_145 (lv_at hl 0 rfl) ?_
    refine lv_bipush (v := 8) hx hb dX11_move_147 (by decide) ?_
    refine lv_aload_n hx hb dX11_move_149 rfl (lv_at hl 1 rfl) ?_
    obtain ⟨q150, c150, hf⟩ := br_b hf
    refine x_callV (k := 47) (As := []) (rest := [.int (8 : Int32), .ref (eB E + (101 + ix (M.1 47 48)))]) (st1 := [.int q150, .int (8 : Int32), .ref (eB E + (101 + ix (M.1 47 48)))]) X hR (ctX11_peace c150) ml_X11_404 im_X11_peace se_X11_peace in_X11 co_X11_peace yo_X11_peace rfl kX11 (z_47 b) (rm_ok (by decide) (by decide)) rfl hl.1 rfl rfl (Nat.le_of_ble_eq_true rfl) dX11_move_150 ⟨Nat.zero_le _, Nat.zero_le _⟩ (fun H locs hR => ?_)
    refine x_iast hx hb hK hR (zr_100 b g59) (by decide) dX11_move_153 (fun H locs hR => ?_)
    obtain ⟨M153, e153⟩ : ∃ y : Mem, y = (sI M144 (101 + ix (M.1 47 48)) (ix (8 : Int32)) q150) := ⟨_, rfl⟩
    have hf := nx_at e153 hf
    have hR : Rl E (sh_ b) (nn b) s.heap M153 H locs := by rw [e153]; exact hR
    refine lv_aload_n hx hb dX11_move_154 rfl (lv_at hl 1 rfl) ?_
    refine lv_dup hx hb dX11_move_155 rfl ?_
    refine x_get hx hb hown hts hK hR kX11 (z_47 b) (j := 48) (by decide) fl_X11_231 (v := .int (M153.1 47 48)) rfl dX11_move_156 ?_
    refine lv_iconst (v := 1) hx hb dX11_move_159 (by decide) ?_
    refine lv_iadd hx hb dX11_move_160 ?_
    refine x_puti hx hb hown hts hK hR kX11 (z_47 b) (j := 48) (by decide) fl_X11_231 rfl rfl rfl rfl dX11_move_161 (fun H locs hR => ?_)
    obtain ⟨M161, e161⟩ : ∃ y : Mem, y = (sI M153 47 48 ((M153.1 47 48) + (1 : Int32))) := ⟨_, rfl⟩
    have hf := nx_at e161 hf
    have hR : Rl E (sh_ b) (nn b) s.heap M161 H locs := by rw [e161]; exact hR
    refine lv_aload_n hx hb dX11_move_164 rfl (lv_at hl 1 rfl) ?_
    refine lv_iconst (v := 0) hx hb dX11_move_165 (by decide) ?_
    refine x_puti hx hb hown hts hK hR kX11 (z_47 b) (j := 29) (by decide) fl_X11_234 rfl rfl rfl rfl dX11_move_166 (fun H locs hR => ?_)
    obtain ⟨M166, e166⟩ : ∃ y : Mem, y = (sI M161 47 29 (0 : Int32)) := ⟨_, rfl⟩
    have hf := nx_at e166 hf
    have hR : Rl E (sh_ b) (nn b) s.heap M166 H locs := by rw [e166]; exact hR
    refine lv_aload_n hx hb dX11_move_169 rfl (lv_at hl 1 rfl) ?_
    refine x_get hx hb hown hts hK hR kX11 (z_47 b) (j := 48) (by decide) fl_X11_231 (v := .int (M166.1 47 48)) rfl dX11_move_170 ?_
    cases hf
    exact x_iret hx hb hr hlk hR dX11_move_173
  · have hf := (br_if hf).1 q46
    exact wX11_move_49 X hf hR (lv_sub hl [] rfl)
set_option maxHeartbeats 4000000 in
set_option maxRecDepth 100000 in
theorem wX11_move_0 {r : Int32} {M1 : Mem} (X : CX E p s m args c meth cX11_move 5 (some .int) RX11) : ∀ {x1 : Int32} {x2 : Int32} {x3 : Int32} {M : Mem} {H : Heap} {locs : List Loc} {ls : Array Slot}, fX11_move x1 x2 x3 M = some (r, M1) → Rl E (sh_ b) (nn b) s.heap M H locs → lv_has ls 5 [(0, .ref (eB E + 47)), (1, .int x1), (2, .int x2), (3, .int x3)] → W p l e (rm 9 0 0) s m args below meth c H locs 0 0 (MQ below (qq E (some (.int r)) (sh_ b) (nn b) M1) args s 0 0 (fr E)) (F0 m 0 ls []) := by
  obtain ⟨hx, hb, hr, hml, hown, hts, hK, hN, hO, hlk, hbs⟩ := id X
  intro x1 x2 x3 M H locs ls hf hR hl
  unfold fX11_move at hf
  refine lv_aload_n hx hb dX11_move_0 rfl (lv_at hl 0 rfl) ?_
  refine lv_iload_n hx hb dX11_move_1 rfl (lv_at hl 1 rfl) ?_
  obtain ⟨q2, c2, hf⟩ := br_b hf
  refine x_callV (k := 47) (As := [.int x1]) (rest := []) (st1 := [.int q2]) X hR (ctX11_isVoter c2) ml_X11_245 im_X11_isVoter se_X11_isVoter in_X11 co_X11_isVoter yo_X11_isVoter rfl kX11 (z_47 b) (rm_ok (by decide) (by decide)) rfl hl.1 rfl rfl (Nat.le_of_ble_eq_true rfl) dX11_move_2 ⟨Nat.zero_le _, Nat.zero_le _⟩ (fun H locs hR => ?_)
  refine lv_if_eq (tgt := 49) hx hb dX11_move_5 (by decide) (fun q5 => ?_) (fun q5 => ?_)
  · have hf := (br_if hf).1 q5
    exact wX11_move_49 X hf hR (lv_sub hl [] rfl)
  · have hf := (br_if hf).2 q5
    refine lv_iload_n hx hb dX11_move_8 rfl (lv_at hl 2 rfl) ?_
    refine lv_iload_n hx hb dX11_move_9 rfl (lv_at hl 3 rfl) ?_
    obtain ⟨q10, c10, hf⟩ := br_b hf
    refine x_callS (As := [.int x2, .int x3]) (rest := []) (st1 := [.int q10]) X hR (ctX11_isPoint c10) ml_X11_251 st_X11_isPoint in_X11 co_X11_isPoint yo_X11_isPoint (rm_ok (by decide) (by decide)) rfl hl.1 rfl rfl (Nat.le_of_ble_eq_true rfl) dX11_move_10 ⟨Nat.zero_le _, Nat.zero_le _⟩ (fun H locs hR => ?_)
    refine lv_if_eq (tgt := 49) hx hb dX11_move_13 (by decide) (fun q13 => ?_) (fun q13 => ?_)
    · have hf := (br_if hf).1 q13
      exact wX11_move_49 X hf hR (lv_sub hl [] rfl)
    · have hf := (br_if hf).2 q13
      refine lv_aload_n hx hb dX11_move_16 rfl (lv_at hl 0 rfl) ?_
      refine x_get hx hb hown hts hK hR kX11 (z_47 b) (j := 6) (by decide) fl_X11_15 (v := .ref (eB E + 49)) rfl dX11_move_17 ?_
      refine lv_iconst (v := 0) hx hb dX11_move_20 (by decide) ?_
      refine x_aald5 hx hb hK hR (z_49 b) (by decide) (r := 50) rfl dX11_move_21 ?_
      refine lv_iload_n hx hb dX11_move_22 rfl (lv_at hl 1 rfl) ?_
      obtain ⟨g23, hf⟩ := br_g hf
      refine x_iald hx hb hK hR (z_50 b) g23 dX11_move_23 ?_
      refine lv_iload_n hx hb dX11_move_24 rfl (lv_at hl 2 rfl) ?_
      refine lv_icmp_ne (tgt := 40) hx hb dX11_move_25 (by decide) (fun q25 => ?_) (fun q25 => ?_)
      · have hf := (br_if hf).2 q25
        exact wX11_move_40 X hf hR hl
      · have hf := (br_if hf).1 q25
        refine lv_aload_n hx hb dX11_move_28 rfl (lv_at hl 0 rfl) ?_
        refine x_get hx hb hown hts hK hR kX11 (z_47 b) (j := 7) (by decide) fl_X11_18 (v := .ref (eB E + 52)) rfl dX11_move_29 ?_
        refine lv_iconst (v := 0) hx hb dX11_move_32 (by decide) ?_
        refine x_aald5 hx hb hK hR (z_52 b) (by decide) (r := 53) rfl dX11_move_33 ?_
        refine lv_iload_n hx hb dX11_move_34 rfl (lv_at hl 1 rfl) ?_
        obtain ⟨g35, hf⟩ := br_g hf
        refine x_iald hx hb hK hR (z_53 b) g35 dX11_move_35 ?_
        refine lv_iload_n hx hb dX11_move_36 rfl (lv_at hl 3 rfl) ?_
        refine lv_icmp_eq (tgt := 49) hx hb dX11_move_37 (by decide) (fun q37 => ?_) (fun q37 => ?_)
        · have hf := (br_if hf).1 q37
          exact wX11_move_49 X hf hR (lv_sub hl [] rfl)
        · have hf := (br_if hf).2 q37
          exact wX11_move_40 X hf hR hl
theorem ctX11_move {l : Launch} {E : Ge} {b : Bool} {M : Mem} {x1 : Int32} {x2 : Int32} {x3 : Int32} {r : Int32} {M1 : Mem} (h : fX11_move x1 x2 x3 M = some (r, M1)) : CT l E yX11_move cX11_move 5 (some .int) 9 0 0 [.ref (eB E + 47), .int x1, .int x2, .int x3] (some (.int r)) (sh_ b) (nn b) M (sh_ b) (nn b) M1 := by
  refine met_of (by decide) (Nat.le_of_ble_eq_true rfl) ?_
  intro p e s m args below meth c X _ hR ls hl
  exact wX11_move_0 X h hR hl
def fX11_moved_40 (M : Mem) (s0 : Int32) : Option Int32 := some s0
def fX11_moved_39 (M : Mem) : Option Int32 := fX11_moved_40 M (-1 : Int32)
def fX11_moved (M : Mem) (x1 : Int32) (x2 : Int32) : Option Int32 := (fX11_in M (x1.toInt64) (0 : Int64) (((M.1 47 48) - (1 : Int32)).toInt64)).bind (fun q10 => (if q10 = 0 then fX11_moved_39 M else (fX11_in M (x2.toInt64) (0 : Int64) (8 : Int64)).bind (fun q22 => (if q22 = 0 then fX11_moved_39 M else (if inb x1 40 = true then (if inb x2 9 = true then fX11_moved_40 M ((M.1 (101 + ix x1) (ix x2))) else none) else none)))))
set_option maxHeartbeats 4000000 in
set_option maxRecDepth 100000 in
theorem wX11_moved_40 {r : Int32} {M : Mem} (X : CX E p s m args c meth cX11_moved 3 (some .int) RX11) : ∀ {s0 : Int32} {H : Heap} {locs : List Loc} {ls : Array Slot}, fX11_moved_40 M s0 = some r → Rl E (sh_ b) (nn b) s.heap M H locs → lv_has ls 3 [] → W p l e (rm 2 0 0) s m args below meth c H locs 0 0 (MQ below (qq E (some (.int r)) (sh_ b) (nn b) M) args s 0 0 (fr E)) (F0 m 40 ls [.int s0]) := by
  obtain ⟨hx, hb, hr, hml, hown, hts, hK, hN, hO, hlk, hbs⟩ := id X
  intro s0 H locs ls hf hR hl
  unfold fX11_moved_40 at hf
  cases hf
  exact x_iret hx hb hr hlk hR dX11_moved_40
set_option maxHeartbeats 4000000 in
set_option maxRecDepth 100000 in
theorem wX11_moved_39 {r : Int32} {M : Mem} (X : CX E p s m args c meth cX11_moved 3 (some .int) RX11) : ∀ {H : Heap} {locs : List Loc} {ls : Array Slot}, fX11_moved_39 M = some r → Rl E (sh_ b) (nn b) s.heap M H locs → lv_has ls 3 [] → W p l e (rm 2 0 0) s m args below meth c H locs 0 0 (MQ below (qq E (some (.int r)) (sh_ b) (nn b) M) args s 0 0 (fr E)) (F0 m 39 ls []) := by
  obtain ⟨hx, hb, hr, hml, hown, hts, hK, hN, hO, hlk, hbs⟩ := id X
  intro H locs ls hf hR hl
  unfold fX11_moved_39 at hf
  refine lv_iconst (v := -1) hx hb dX11_moved_39 (by decide) ?_
  exact wX11_moved_40 X hf hR hl
set_option maxHeartbeats 4000000 in
set_option maxRecDepth 100000 in
theorem wX11_moved_0 {r : Int32} {M : Mem} (X : CX E p s m args c meth cX11_moved 3 (some .int) RX11) : ∀ {x1 : Int32} {x2 : Int32} {H : Heap} {locs : List Loc} {ls : Array Slot}, fX11_moved M x1 x2 = some r → Rl E (sh_ b) (nn b) s.heap M H locs → lv_has ls 3 [(0, .ref (eB E + 47)), (1, .int x1), (2, .int x2)] → W p l e (rm 2 0 0) s m args below meth c H locs 0 0 (MQ below (qq E (some (.int r)) (sh_ b) (nn b) M) args s 0 0 (fr E)) (F0 m 0 ls []) := by
  obtain ⟨hx, hb, hr, hml, hown, hts, hK, hN, hO, hlk, hbs⟩ := id X
  intro x1 x2 H locs ls hf hR hl
  unfold fX11_moved at hf
  refine lv_iload_n hx hb dX11_moved_0 rfl (lv_at hl 1 rfl) ?_
  refine lv_i2l (v := x1.toInt64) hx hb dX11_moved_1 rfl ?_
  refine lv_lconst (v := 0) hx hb dX11_moved_2 (by decide) ?_
  refine lv_aload_n hx hb dX11_moved_3 rfl (lv_at hl 0 rfl) ?_
  refine x_get hx hb hown hts hK hR kX11 (z_47 b) (j := 48) (by decide) fl_X11_231 (v := .int (M.1 47 48)) rfl dX11_moved_4 ?_
  refine lv_iconst (v := 1) hx hb dX11_moved_7 (by decide) ?_
  refine lv_isub hx hb dX11_moved_8 ?_
  refine lv_i2l (v := ((M.1 47 48) - (1 : Int32)).toInt64) hx hb dX11_moved_9 rfl ?_
  obtain ⟨q10, c10, hf⟩ := br_b hf
  refine x_callS (As := [.long x1.toInt64, .long (0 : Int64), .long ((M.1 47 48) - (1 : Int32)).toInt64]) (rest := []) (st1 := [.int q10]) X hR (ctX11_in c10) ml_X11_122 st_X11_in in_X11 co_X11_in yo_X11_in (rm_ok (by decide) (by decide)) rfl hl.1 rfl rfl (Nat.le_of_ble_eq_true rfl) dX11_moved_10 ⟨Nat.zero_le _, Nat.zero_le _⟩ (fun H locs hR => ?_)
  refine lv_if_eq (tgt := 39) hx hb dX11_moved_13 (by decide) (fun q13 => ?_) (fun q13 => ?_)
  · have hf := (br_if hf).1 q13
    exact wX11_moved_39 X hf hR (lv_sub hl [] rfl)
  · have hf := (br_if hf).2 q13
    refine lv_iload_n hx hb dX11_moved_16 rfl (lv_at hl 2 rfl) ?_
    refine lv_i2l (v := x2.toInt64) hx hb dX11_moved_17 rfl ?_
    refine lv_lconst (v := 0) hx hb dX11_moved_18 (by decide) ?_
    refine lv_ldc2 hx hb hown (hts _ kl_X11_430) dX11_moved_19 ?_
    obtain ⟨q22, c22, hf⟩ := br_b hf
    refine x_callS (As := [.long x2.toInt64, .long (0 : Int64), .long (8 : Int64)]) (rest := []) (st1 := [.int q22]) X hR (ctX11_in c22) ml_X11_122 st_X11_in in_X11 co_X11_in yo_X11_in (rm_ok (by decide) (by decide)) rfl hl.1 rfl rfl (Nat.le_of_ble_eq_true rfl) dX11_moved_22 ⟨Nat.zero_le _, Nat.zero_le _⟩ (fun H locs hR => ?_)
    refine lv_if_eq (tgt := 39) hx hb dX11_moved_25 (by decide) (fun q25 => ?_) (fun q25 => ?_)
    · have hf := (br_if hf).1 q25
      exact wX11_moved_39 X hf hR (lv_sub hl [] rfl)
    · have hf := (br_if hf).2 q25
      refine lv_aload_n hx hb dX11_moved_28 rfl (lv_at hl 0 rfl) ?_
      refine x_get hx hb hown hts hK hR kX11 (z_47 b) (j := 47) (by decide) fl_X11_111 (v := .ref (eB E + 100)) rfl dX11_moved_29 ?_
      refine lv_iload_n hx hb dX11_moved_32 rfl (lv_at hl 1 rfl) ?_
      obtain ⟨g33, hf⟩ := br_g hf
      refine x_aald5 hx hb hK hR (z_100 b) g33 (r := (101 + ix x1)) (zq_100 g33) dX11_moved_33 ?_
      refine lv_iload_n hx hb dX11_moved_34 rfl (lv_at hl 2 rfl) ?_
      obtain ⟨g35, hf⟩ := br_g hf
      refine x_iald hx hb hK hR (zr_100 b g33) g35 dX11_moved_35 ?_
      refine lv_goto (tgt := 40) hx hb dX11_moved_36 (by decide) ?_
      exact wX11_moved_40 X hf hR (lv_sub hl [] rfl)
theorem ctX11_moved {l : Launch} {E : Ge} {b : Bool} {M : Mem} {x1 : Int32} {x2 : Int32} {r : Int32} (h : fX11_moved M x1 x2 = some r) : CT l E yX11_moved cX11_moved 3 (some .int) 2 0 0 [.ref (eB E + 47), .int x1, .int x2] (some (.int r)) (sh_ b) (nn b) M (sh_ b) (nn b) M := by
  refine met_of (by decide) (Nat.le_of_ble_eq_true rfl) ?_
  intro p e s m args below meth c X _ hR ls hl
  exact wX11_moved_0 X h hR hl
def fX11_needOf_28 (M : Mem) (k4 : Int32 → Int32 → Int32 → Option Int32) (k34 : Int32 → Option Int32) (x1 : Int32) (x2 : Int32) (x3 : Int32) : Option Int32 := nx (x3 + (1 : Int32)) (fun v28 => k4 x1 x2 v28)
def fX11_needOf_4 (M : Mem) (k34 : Int32 → Option Int32) : Nat → Int32 → Int32 → Int32 → Option Int32
  | 0, _, _, _ => none
  | n + 1, x1, x2, x3 => (fX11_places M).bind (fun q6 => (if q6 ≤ x3 then k34 x2 else (if x3 = x1 then fX11_needOf_28 M (fX11_needOf_4 M k34 n) k34 x1 x2 x3 else (fX11_votesOf M x3 x1).bind (fun q21 => nx (imax x2 q21) (fun v27 => fX11_needOf_28 M (fX11_needOf_4 M k34 n) k34 x1 v27 x3)))))
def fX11_needOf_34 (M : Mem) (x2 : Int32) : Option Int32 := some x2
def fX11_needOf (M : Mem) (x1 : Int32) : Option Int32 := fX11_needOf_4 M (fX11_needOf_34 M) FU x1 (0 : Int32) (0 : Int32)
set_option maxHeartbeats 4000000 in
set_option maxRecDepth 100000 in
theorem wX11_needOf_28 {r : Int32} {M : Mem} {k4 : Int32 → Int32 → Int32 → Option Int32} {k34 : Int32 → Option Int32} (X : CX E p s m args c meth cX11_needOf 4 (some .int) RX11) (hk4 : ∀ {x1 : Int32} {x2 : Int32} {x3 : Int32} {H : Heap} {locs : List Loc} {ls : Array Slot}, k4 x1 x2 x3 = some r → Rl E (sh_ b) (nn b) s.heap M H locs → lv_has ls 4 [(0, .ref (eB E + 47)), (1, .int x1), (2, .int x2), (3, .int x3)] → W p l e (rm 6 0 0) s m args below meth c H locs 0 0 (MQ below (qq E (some (.int r)) (sh_ b) (nn b) M) args s 0 0 (fr E)) (F0 m 4 ls [])) (hk34 : ∀ {x2 : Int32} {H : Heap} {locs : List Loc} {ls : Array Slot}, k34 x2 = some r → Rl E (sh_ b) (nn b) s.heap M H locs → lv_has ls 4 [(2, .int x2)] → W p l e (rm 6 0 0) s m args below meth c H locs 0 0 (MQ below (qq E (some (.int r)) (sh_ b) (nn b) M) args s 0 0 (fr E)) (F0 m 34 ls [])) : ∀ {x1 : Int32} {x2 : Int32} {x3 : Int32} {H : Heap} {locs : List Loc} {ls : Array Slot}, fX11_needOf_28 M k4 k34 x1 x2 x3 = some r → Rl E (sh_ b) (nn b) s.heap M H locs → lv_has ls 4 [(0, .ref (eB E + 47)), (1, .int x1), (2, .int x2), (3, .int x3)] → W p l e (rm 6 0 0) s m args below meth c H locs 0 0 (MQ below (qq E (some (.int r)) (sh_ b) (nn b) M) args s 0 0 (fr E)) (F0 m 28 ls []) := by
  obtain ⟨hx, hb, hr, hml, hown, hts, hK, hN, hO, hlk, hbs⟩ := id X
  intro x1 x2 x3 H locs ls hf hR hl
  unfold fX11_needOf_28 at hf
  obtain ⟨v28, e28⟩ : ∃ y : Int32, y = (x3 + (1 : Int32)) := ⟨_, rfl⟩
  have hf := nx_at e28 hf
  refine lv_iinc (v := v28) (lv' := [(3, .int v28), (0, .ref (eB E + 47)), (1, .int x1), (2, .int x2)]) hx hb dX11_needOf_28 hl (k := 3) rfl (by rw [e28]; rfl) (by decide) rfl (fun ls hl => ?_)
  refine lv_goto (tgt := 4) hx hb dX11_needOf_31 (by decide) ?_
  exact hk4 hf hR (lv_sub hl [1, 2, 3, 0] rfl)
set_option maxHeartbeats 4000000 in
set_option maxRecDepth 100000 in
theorem wX11_needOf_4 {r : Int32} {M : Mem} {k34 : Int32 → Option Int32} (X : CX E p s m args c meth cX11_needOf 4 (some .int) RX11) (hk34 : ∀ {x2 : Int32} {H : Heap} {locs : List Loc} {ls : Array Slot}, k34 x2 = some r → Rl E (sh_ b) (nn b) s.heap M H locs → lv_has ls 4 [(2, .int x2)] → W p l e (rm 6 0 0) s m args below meth c H locs 0 0 (MQ below (qq E (some (.int r)) (sh_ b) (nn b) M) args s 0 0 (fr E)) (F0 m 34 ls [])) : ∀ (n : Nat) {x1 : Int32} {x2 : Int32} {x3 : Int32} {H : Heap} {locs : List Loc} {ls : Array Slot}, fX11_needOf_4 M k34 n x1 x2 x3 = some r → Rl E (sh_ b) (nn b) s.heap M H locs → lv_has ls 4 [(0, .ref (eB E + 47)), (1, .int x1), (2, .int x2), (3, .int x3)] → W p l e (rm 6 0 0) s m args below meth c H locs 0 0 (MQ below (qq E (some (.int r)) (sh_ b) (nn b) M) args s 0 0 (fr E)) (F0 m 4 ls []) := by
  obtain ⟨hx, hb, hr, hml, hown, hts, hK, hN, hO, hlk, hbs⟩ := id X
  intro n
  induction n with
  | zero =>
    intro x1 x2 x3 H locs ls hf hR hl
    exact absurd (show none = some _ from hf) (fun h => by cases h)
  | succ n ih =>
    intro x1 x2 x3 H locs ls hf hR hl
    rw [fX11_needOf_4] at hf
    refine lv_iload_n hx hb dX11_needOf_4 rfl (lv_at hl 3 rfl) ?_
    refine lv_aload_n hx hb dX11_needOf_5 rfl (lv_at hl 0 rfl) ?_
    obtain ⟨q6, c6, hf⟩ := br_b hf
    refine x_callV (k := 47) (As := []) (rest := [.int x3]) (st1 := [.int q6, .int x3]) X hR (ctX11_places c6) ml_X11_242 im_X11_places se_X11_places in_X11 co_X11_places yo_X11_places rfl kX11 (z_47 b) (rm_ok (by decide) (by decide)) rfl hl.1 rfl rfl (Nat.le_of_ble_eq_true rfl) dX11_needOf_6 ⟨Nat.zero_le _, Nat.zero_le _⟩ (fun H locs hR => ?_)
    refine lv_icmp_ge (tgt := 34) hx hb dX11_needOf_9 (by decide) (fun q9 => ?_) (fun q9 => ?_)
    · have hf := (br_if hf).1 q9
      exact hk34 hf hR (lv_sub hl [2] rfl)
    · have hf := (br_if hf).2 q9
      refine lv_iload_n hx hb dX11_needOf_12 rfl (lv_at hl 3 rfl) ?_
      refine lv_iload_n hx hb dX11_needOf_13 rfl (lv_at hl 1 rfl) ?_
      refine lv_icmp_eq (tgt := 28) hx hb dX11_needOf_14 (by decide) (fun q14 => ?_) (fun q14 => ?_)
      · have hf := (br_if hf).1 q14
        exact wX11_needOf_28 X (fun hf hR hl => ih hf hR hl) (fun hf hR hl => hk34 hf hR hl) hf hR hl
      · have hf := (br_if hf).2 q14
        refine lv_iload_n hx hb dX11_needOf_17 rfl (lv_at hl 2 rfl) ?_
        refine lv_aload_n hx hb dX11_needOf_18 rfl (lv_at hl 0 rfl) ?_
        refine lv_iload_n hx hb dX11_needOf_19 rfl (lv_at hl 3 rfl) ?_
        refine lv_iload_n hx hb dX11_needOf_20 rfl (lv_at hl 1 rfl) ?_
        obtain ⟨q21, c21, hf⟩ := br_b hf
        refine x_callV (k := 47) (As := [.int x3, .int x1]) (rest := [.int x2]) (st1 := [.int q21, .int x2]) X hR (ctX11_votesOf c21) ml_X11_280 im_X11_votesOf se_X11_votesOf in_X11 co_X11_votesOf yo_X11_votesOf rfl kX11 (z_47 b) (rm_ok (by decide) (by decide)) rfl hl.1 rfl rfl (Nat.le_of_ble_eq_true rfl) dX11_needOf_21 ⟨Nat.zero_le _, Nat.zero_le _⟩ (fun H locs hR => ?_)
        refine va_mmax hx hb (by rw [hml]; exact hl.1.symm) hown (hts _ ml_X11_192) (hts _ st_max) (hts _ in_J9) (hts _ co_max) (by decide) (Nat.le_of_ble_eq_true rfl) (Nat.zero_le _) (Nat.zero_le _) dX11_needOf_24 ?_
        refine W.eq (g2 := F0 m 27 ls [.int (imax x2 q21)]) rfl ?_
        refine lv_topi (fun v27 e27 => ?_)
        have hf := nx_at e27 hf
        refine lv_istore_n (lv' := [(2, .int v27), (0, .ref (eB E + 47)), (1, .int x1), (3, .int x3)]) hx hb dX11_needOf_27 rfl hl (by decide) rfl (fun ls hl => ?_)
        exact wX11_needOf_28 X (fun hf hR hl => ih hf hR hl) (fun hf hR hl => hk34 hf hR hl) hf hR (lv_sub hl [1, 2, 0, 3] rfl)
set_option maxHeartbeats 4000000 in
set_option maxRecDepth 100000 in
theorem wX11_needOf_34 {r : Int32} {M : Mem} (X : CX E p s m args c meth cX11_needOf 4 (some .int) RX11) : ∀ {x2 : Int32} {H : Heap} {locs : List Loc} {ls : Array Slot}, fX11_needOf_34 M x2 = some r → Rl E (sh_ b) (nn b) s.heap M H locs → lv_has ls 4 [(2, .int x2)] → W p l e (rm 6 0 0) s m args below meth c H locs 0 0 (MQ below (qq E (some (.int r)) (sh_ b) (nn b) M) args s 0 0 (fr E)) (F0 m 34 ls []) := by
  obtain ⟨hx, hb, hr, hml, hown, hts, hK, hN, hO, hlk, hbs⟩ := id X
  intro x2 H locs ls hf hR hl
  unfold fX11_needOf_34 at hf
  refine lv_iload_n hx hb dX11_needOf_34 rfl (lv_at hl 0 rfl) ?_
  cases hf
  exact x_iret hx hb hr hlk hR dX11_needOf_35
set_option maxHeartbeats 4000000 in
set_option maxRecDepth 100000 in
theorem wX11_needOf_0 {r : Int32} {M : Mem} (X : CX E p s m args c meth cX11_needOf 4 (some .int) RX11) : ∀ {x1 : Int32} {H : Heap} {locs : List Loc} {ls : Array Slot}, fX11_needOf M x1 = some r → Rl E (sh_ b) (nn b) s.heap M H locs → lv_has ls 4 [(0, .ref (eB E + 47)), (1, .int x1)] → W p l e (rm 6 0 0) s m args below meth c H locs 0 0 (MQ below (qq E (some (.int r)) (sh_ b) (nn b) M) args s 0 0 (fr E)) (F0 m 0 ls []) := by
  obtain ⟨hx, hb, hr, hml, hown, hts, hK, hN, hO, hlk, hbs⟩ := id X
  intro x1 H locs ls hf hR hl
  unfold fX11_needOf at hf
  refine lv_iconst (v := 0) hx hb dX11_needOf_0 (by decide) ?_
  refine lv_istore_n (lv' := [(2, .int (0 : Int32)), (0, .ref (eB E + 47)), (1, .int x1)]) hx hb dX11_needOf_1 rfl hl (by decide) rfl (fun ls hl => ?_)
  refine lv_iconst (v := 0) hx hb dX11_needOf_2 (by decide) ?_
  refine lv_istore_n (lv' := [(3, .int (0 : Int32)), (2, .int (0 : Int32)), (0, .ref (eB E + 47)), (1, .int x1)]) hx hb dX11_needOf_3 rfl hl (by decide) rfl (fun ls hl => ?_)
  exact wX11_needOf_4 X (fun hf hR hl => wX11_needOf_34 X hf hR hl) FU hf hR (lv_sub hl [2, 3, 1, 0] rfl)
theorem ctX11_needOf {l : Launch} {E : Ge} {b : Bool} {M : Mem} {x1 : Int32} {r : Int32} (h : fX11_needOf M x1 = some r) : CT l E yX11_needOf cX11_needOf 4 (some .int) 6 0 0 [.ref (eB E + 47), .int x1] (some (.int r)) (sh_ b) (nn b) M (sh_ b) (nn b) M := by
  refine met_of (by decide) (Nat.le_of_ble_eq_true rfl) ?_
  intro p e s m args below meth c X _ hR ls hl
  exact wX11_needOf_0 X h hR hl
def fX11_need_21 (M : Mem) : Option Int32 := some (-1 : Int32)
def fX11_need_61 (M : Mem) (k38 : Int32 → Int32 → Option Int32) (k67 : Int32 → Option Int32) (x2 : Int32) (x3 : Int32) : Option Int32 := nx (x3 + (1 : Int32)) (fun v61 => k38 x2 v61)
def fX11_need_38 (M : Mem) (k67 : Int32 → Option Int32) : Nat → Int32 → Int32 → Option Int32
  | 0, _, _ => none
  | n + 1, x2, x3 => (fX11_places M).bind (fun q40 => (if q40 ≤ x3 then k67 x2 else (fX11_needOf M x3).bind (fun q48 => (fX11_needOf M x2).bind (fun q53 => (if q53 ≤ q48 then fX11_need_61 M (fX11_need_38 M k67 n) k67 x2 x3 else fX11_need_61 M (fX11_need_38 M k67 n) k67 x3 x3)))))
def fX11_need_67 (M : Mem) (x2 : Int32) : Option Int32 := some x2
def fX11_need_23 (M : Mem) (x1 : Int32) : Option Int32 := (if x1 = (-1 : Int32) then fX11_need_38 M (fX11_need_67 M) FU (0 : Int32) (1 : Int32) else (fX11_needOf M x1).bind (fun q30 => some q30))
def fX11_need (M : Mem) (x1 : Int32) : Option Int32 := (fX11_places M).bind (fun q1 => (if q1 < (2 : Int32) then fX11_need_21 M else (if x1 = (-1 : Int32) then fX11_need_23 M x1 else (fX11_isPlace M x1).bind (fun q15 => (if q15 = 0 then fX11_need_21 M else fX11_need_23 M x1)))))
set_option maxHeartbeats 4000000 in
set_option maxRecDepth 100000 in
theorem wX11_need_21 {r : Int32} {M : Mem} (X : CX E p s m args c meth cX11_need 4 (some .int) RX11) : ∀ {H : Heap} {locs : List Loc} {ls : Array Slot}, fX11_need_21 M = some r → Rl E (sh_ b) (nn b) s.heap M H locs → lv_has ls 4 [] → W p l e (rm 7 0 0) s m args below meth c H locs 0 0 (MQ below (qq E (some (.int r)) (sh_ b) (nn b) M) args s 0 0 (fr E)) (F0 m 21 ls []) := by
  obtain ⟨hx, hb, hr, hml, hown, hts, hK, hN, hO, hlk, hbs⟩ := id X
  intro H locs ls hf hR hl
  unfold fX11_need_21 at hf
  refine lv_iconst (v := -1) hx hb dX11_need_21 (by decide) ?_
  cases hf
  exact x_iret hx hb hr hlk hR dX11_need_22
set_option maxHeartbeats 4000000 in
set_option maxRecDepth 100000 in
theorem wX11_need_61 {r : Int32} {M : Mem} {k38 : Int32 → Int32 → Option Int32} {k67 : Int32 → Option Int32} (X : CX E p s m args c meth cX11_need 4 (some .int) RX11) (hk38 : ∀ {x2 : Int32} {x3 : Int32} {H : Heap} {locs : List Loc} {ls : Array Slot}, k38 x2 x3 = some r → Rl E (sh_ b) (nn b) s.heap M H locs → lv_has ls 4 [(0, .ref (eB E + 47)), (2, .int x2), (3, .int x3)] → W p l e (rm 7 0 0) s m args below meth c H locs 0 0 (MQ below (qq E (some (.int r)) (sh_ b) (nn b) M) args s 0 0 (fr E)) (F0 m 38 ls [])) (hk67 : ∀ {x2 : Int32} {H : Heap} {locs : List Loc} {ls : Array Slot}, k67 x2 = some r → Rl E (sh_ b) (nn b) s.heap M H locs → lv_has ls 4 [(2, .int x2)] → W p l e (rm 7 0 0) s m args below meth c H locs 0 0 (MQ below (qq E (some (.int r)) (sh_ b) (nn b) M) args s 0 0 (fr E)) (F0 m 67 ls [])) : ∀ {x2 : Int32} {x3 : Int32} {H : Heap} {locs : List Loc} {ls : Array Slot}, fX11_need_61 M k38 k67 x2 x3 = some r → Rl E (sh_ b) (nn b) s.heap M H locs → lv_has ls 4 [(0, .ref (eB E + 47)), (2, .int x2), (3, .int x3)] → W p l e (rm 7 0 0) s m args below meth c H locs 0 0 (MQ below (qq E (some (.int r)) (sh_ b) (nn b) M) args s 0 0 (fr E)) (F0 m 61 ls []) := by
  obtain ⟨hx, hb, hr, hml, hown, hts, hK, hN, hO, hlk, hbs⟩ := id X
  intro x2 x3 H locs ls hf hR hl
  unfold fX11_need_61 at hf
  obtain ⟨v61, e61⟩ : ∃ y : Int32, y = (x3 + (1 : Int32)) := ⟨_, rfl⟩
  have hf := nx_at e61 hf
  refine lv_iinc (v := v61) (lv' := [(3, .int v61), (0, .ref (eB E + 47)), (2, .int x2)]) hx hb dX11_need_61 hl (k := 2) rfl (by rw [e61]; rfl) (by decide) rfl (fun ls hl => ?_)
  refine lv_goto (tgt := 38) hx hb dX11_need_64 (by decide) ?_
  exact hk38 hf hR (lv_sub hl [1, 2, 0] rfl)
set_option maxHeartbeats 4000000 in
set_option maxRecDepth 100000 in
theorem wX11_need_38 {r : Int32} {M : Mem} {k67 : Int32 → Option Int32} (X : CX E p s m args c meth cX11_need 4 (some .int) RX11) (hk67 : ∀ {x2 : Int32} {H : Heap} {locs : List Loc} {ls : Array Slot}, k67 x2 = some r → Rl E (sh_ b) (nn b) s.heap M H locs → lv_has ls 4 [(2, .int x2)] → W p l e (rm 7 0 0) s m args below meth c H locs 0 0 (MQ below (qq E (some (.int r)) (sh_ b) (nn b) M) args s 0 0 (fr E)) (F0 m 67 ls [])) : ∀ (n : Nat) {x2 : Int32} {x3 : Int32} {H : Heap} {locs : List Loc} {ls : Array Slot}, fX11_need_38 M k67 n x2 x3 = some r → Rl E (sh_ b) (nn b) s.heap M H locs → lv_has ls 4 [(0, .ref (eB E + 47)), (2, .int x2), (3, .int x3)] → W p l e (rm 7 0 0) s m args below meth c H locs 0 0 (MQ below (qq E (some (.int r)) (sh_ b) (nn b) M) args s 0 0 (fr E)) (F0 m 38 ls []) := by
  obtain ⟨hx, hb, hr, hml, hown, hts, hK, hN, hO, hlk, hbs⟩ := id X
  intro n
  induction n with
  | zero =>
    intro x2 x3 H locs ls hf hR hl
    exact absurd (show none = some _ from hf) (fun h => by cases h)
  | succ n ih =>
    intro x2 x3 H locs ls hf hR hl
    rw [fX11_need_38] at hf
    refine lv_iload_n hx hb dX11_need_38 rfl (lv_at hl 2 rfl) ?_
    refine lv_aload_n hx hb dX11_need_39 rfl (lv_at hl 0 rfl) ?_
    obtain ⟨q40, c40, hf⟩ := br_b hf
    refine x_callV (k := 47) (As := []) (rest := [.int x3]) (st1 := [.int q40, .int x3]) X hR (ctX11_places c40) ml_X11_242 im_X11_places se_X11_places in_X11 co_X11_places yo_X11_places rfl kX11 (z_47 b) (rm_ok (by decide) (by decide)) rfl hl.1 rfl rfl (Nat.le_of_ble_eq_true rfl) dX11_need_40 ⟨Nat.zero_le _, Nat.zero_le _⟩ (fun H locs hR => ?_)
    refine lv_icmp_ge (tgt := 67) hx hb dX11_need_43 (by decide) (fun q43 => ?_) (fun q43 => ?_)
    · have hf := (br_if hf).1 q43
      exact hk67 hf hR (lv_sub hl [1] rfl)
    · have hf := (br_if hf).2 q43
      refine lv_aload_n hx hb dX11_need_46 rfl (lv_at hl 0 rfl) ?_
      refine lv_iload_n hx hb dX11_need_47 rfl (lv_at hl 2 rfl) ?_
      obtain ⟨q48, c48, hf⟩ := br_b hf
      refine x_callV (k := 47) (As := [.int x3]) (rest := []) (st1 := [.int q48]) X hR (ctX11_needOf c48) ml_X11_398 im_X11_needOf se_X11_needOf in_X11 co_X11_needOf yo_X11_needOf rfl kX11 (z_47 b) (rm_ok (by decide) (by decide)) rfl hl.1 rfl rfl (Nat.le_of_ble_eq_true rfl) dX11_need_48 ⟨Nat.zero_le _, Nat.zero_le _⟩ (fun H locs hR => ?_)
      refine lv_aload_n hx hb dX11_need_51 rfl (lv_at hl 0 rfl) ?_
      refine lv_iload_n hx hb dX11_need_52 rfl (lv_at hl 1 rfl) ?_
      obtain ⟨q53, c53, hf⟩ := br_b hf
      refine x_callV (k := 47) (As := [.int x2]) (rest := [.int q48]) (st1 := [.int q53, .int q48]) X hR (ctX11_needOf c53) ml_X11_398 im_X11_needOf se_X11_needOf in_X11 co_X11_needOf yo_X11_needOf rfl kX11 (z_47 b) (rm_ok (by decide) (by decide)) rfl hl.1 rfl rfl (Nat.le_of_ble_eq_true rfl) dX11_need_53 ⟨Nat.zero_le _, Nat.zero_le _⟩ (fun H locs hR => ?_)
      refine lv_icmp_ge (tgt := 61) hx hb dX11_need_56 (by decide) (fun q56 => ?_) (fun q56 => ?_)
      · have hf := (br_if hf).1 q56
        exact wX11_need_61 X (fun hf hR hl => ih hf hR hl) (fun hf hR hl => hk67 hf hR hl) hf hR hl
      · have hf := (br_if hf).2 q56
        refine lv_iload_n hx hb dX11_need_59 rfl (lv_at hl 2 rfl) ?_
        refine lv_istore_n (lv' := [(2, .int x3), (0, .ref (eB E + 47)), (3, .int x3)]) hx hb dX11_need_60 rfl hl (by decide) rfl (fun ls hl => ?_)
        exact wX11_need_61 X (fun hf hR hl => ih hf hR hl) (fun hf hR hl => hk67 hf hR hl) hf hR (lv_sub hl [1, 0, 2] rfl)
set_option maxHeartbeats 4000000 in
set_option maxRecDepth 100000 in
theorem wX11_need_67 {r : Int32} {M : Mem} (X : CX E p s m args c meth cX11_need 4 (some .int) RX11) : ∀ {x2 : Int32} {H : Heap} {locs : List Loc} {ls : Array Slot}, fX11_need_67 M x2 = some r → Rl E (sh_ b) (nn b) s.heap M H locs → lv_has ls 4 [(2, .int x2)] → W p l e (rm 7 0 0) s m args below meth c H locs 0 0 (MQ below (qq E (some (.int r)) (sh_ b) (nn b) M) args s 0 0 (fr E)) (F0 m 67 ls []) := by
  obtain ⟨hx, hb, hr, hml, hown, hts, hK, hN, hO, hlk, hbs⟩ := id X
  intro x2 H locs ls hf hR hl
  unfold fX11_need_67 at hf
  refine lv_iload_n hx hb dX11_need_67 rfl (lv_at hl 0 rfl) ?_
  cases hf
  exact x_iret hx hb hr hlk hR dX11_need_68
set_option maxHeartbeats 4000000 in
set_option maxRecDepth 100000 in
theorem wX11_need_23 {r : Int32} {M : Mem} (X : CX E p s m args c meth cX11_need 4 (some .int) RX11) : ∀ {x1 : Int32} {H : Heap} {locs : List Loc} {ls : Array Slot}, fX11_need_23 M x1 = some r → Rl E (sh_ b) (nn b) s.heap M H locs → lv_has ls 4 [(0, .ref (eB E + 47)), (1, .int x1)] → W p l e (rm 7 0 0) s m args below meth c H locs 0 0 (MQ below (qq E (some (.int r)) (sh_ b) (nn b) M) args s 0 0 (fr E)) (F0 m 23 ls []) := by
  obtain ⟨hx, hb, hr, hml, hown, hts, hK, hN, hO, hlk, hbs⟩ := id X
  intro x1 H locs ls hf hR hl
  unfold fX11_need_23 at hf
  refine lv_iload_n hx hb dX11_need_23 rfl (lv_at hl 1 rfl) ?_
  refine lv_iconst (v := -1) hx hb dX11_need_24 (by decide) ?_
  refine lv_icmp_eq (tgt := 34) hx hb dX11_need_25 (by decide) (fun q25 => ?_) (fun q25 => ?_)
  · have hf := (br_if hf).1 q25
    refine lv_iconst (v := 0) hx hb dX11_need_34 (by decide) ?_
    refine lv_istore_n (lv' := [(2, .int (0 : Int32)), (0, .ref (eB E + 47)), (1, .int x1)]) hx hb dX11_need_35 rfl hl (by decide) rfl (fun ls hl => ?_)
    refine lv_iconst (v := 1) hx hb dX11_need_36 (by decide) ?_
    refine lv_istore_n (lv' := [(3, .int (1 : Int32)), (2, .int (0 : Int32)), (0, .ref (eB E + 47)), (1, .int x1)]) hx hb dX11_need_37 rfl hl (by decide) rfl (fun ls hl => ?_)
    exact wX11_need_38 X (fun hf hR hl => wX11_need_67 X hf hR hl) FU hf hR (lv_sub hl [2, 1, 0] rfl)
  · have hf := (br_if hf).2 q25
    refine lv_aload_n hx hb dX11_need_28 rfl (lv_at hl 0 rfl) ?_
    refine lv_iload_n hx hb dX11_need_29 rfl (lv_at hl 1 rfl) ?_
    obtain ⟨q30, c30, hf⟩ := br_b hf
    refine x_callV (k := 47) (As := [.int x1]) (rest := []) (st1 := [.int q30]) X hR (ctX11_needOf c30) ml_X11_398 im_X11_needOf se_X11_needOf in_X11 co_X11_needOf yo_X11_needOf rfl kX11 (z_47 b) (rm_ok (by decide) (by decide)) rfl hl.1 rfl rfl (Nat.le_of_ble_eq_true rfl) dX11_need_30 ⟨Nat.zero_le _, Nat.zero_le _⟩ (fun H locs hR => ?_)
    cases hf
    exact x_iret hx hb hr hlk hR dX11_need_33
set_option maxHeartbeats 4000000 in
set_option maxRecDepth 100000 in
theorem wX11_need_0 {r : Int32} {M : Mem} (X : CX E p s m args c meth cX11_need 4 (some .int) RX11) : ∀ {x1 : Int32} {H : Heap} {locs : List Loc} {ls : Array Slot}, fX11_need M x1 = some r → Rl E (sh_ b) (nn b) s.heap M H locs → lv_has ls 4 [(0, .ref (eB E + 47)), (1, .int x1)] → W p l e (rm 7 0 0) s m args below meth c H locs 0 0 (MQ below (qq E (some (.int r)) (sh_ b) (nn b) M) args s 0 0 (fr E)) (F0 m 0 ls []) := by
  obtain ⟨hx, hb, hr, hml, hown, hts, hK, hN, hO, hlk, hbs⟩ := id X
  intro x1 H locs ls hf hR hl
  unfold fX11_need at hf
  refine lv_aload_n hx hb dX11_need_0 rfl (lv_at hl 0 rfl) ?_
  obtain ⟨q1, c1, hf⟩ := br_b hf
  refine x_callV (k := 47) (As := []) (rest := []) (st1 := [.int q1]) X hR (ctX11_places c1) ml_X11_242 im_X11_places se_X11_places in_X11 co_X11_places yo_X11_places rfl kX11 (z_47 b) (rm_ok (by decide) (by decide)) rfl hl.1 rfl rfl (Nat.le_of_ble_eq_true rfl) dX11_need_1 ⟨Nat.zero_le _, Nat.zero_le _⟩ (fun H locs hR => ?_)
  refine lv_iconst (v := 2) hx hb dX11_need_4 (by decide) ?_
  refine lv_icmp_lt (tgt := 21) hx hb dX11_need_5 (by decide) (fun q5 => ?_) (fun q5 => ?_)
  · have hf := (br_if hf).1 q5
    exact wX11_need_21 X hf hR (lv_sub hl [] rfl)
  · have hf := (br_if hf).2 q5
    refine lv_iload_n hx hb dX11_need_8 rfl (lv_at hl 1 rfl) ?_
    refine lv_iconst (v := -1) hx hb dX11_need_9 (by decide) ?_
    refine lv_icmp_eq (tgt := 23) hx hb dX11_need_10 (by decide) (fun q10 => ?_) (fun q10 => ?_)
    · have hf := (br_if hf).1 q10
      exact wX11_need_23 X hf hR hl
    · have hf := (br_if hf).2 q10
      refine lv_aload_n hx hb dX11_need_13 rfl (lv_at hl 0 rfl) ?_
      refine lv_iload_n hx hb dX11_need_14 rfl (lv_at hl 1 rfl) ?_
      obtain ⟨q15, c15, hf⟩ := br_b hf
      refine x_callV (k := 47) (As := [.int x1]) (rest := []) (st1 := [.int q15]) X hR (ctX11_isPlace c15) ml_X11_248 im_X11_isPlace se_X11_isPlace in_X11 co_X11_isPlace yo_X11_isPlace rfl kX11 (z_47 b) (rm_ok (by decide) (by decide)) rfl hl.1 rfl rfl (Nat.le_of_ble_eq_true rfl) dX11_need_15 ⟨Nat.zero_le _, Nat.zero_le _⟩ (fun H locs hR => ?_)
      refine lv_if_ne (tgt := 23) hx hb dX11_need_18 (by decide) (fun q18 => ?_) (fun q18 => ?_)
      · have hf := (br_if hf).2 q18
        exact wX11_need_23 X hf hR hl
      · have hf := (br_if hf).1 q18
        exact wX11_need_21 X hf hR (lv_sub hl [] rfl)
theorem ctX11_need {l : Launch} {E : Ge} {b : Bool} {M : Mem} {x1 : Int32} {r : Int32} (h : fX11_need M x1 = some r) : CT l E yX11_need cX11_need 4 (some .int) 7 0 0 [.ref (eB E + 47), .int x1] (some (.int r)) (sh_ b) (nn b) M (sh_ b) (nn b) M := by
  refine met_of (by decide) (Nat.le_of_ble_eq_true rfl) ?_
  intro p e s m args below meth c X _ hR ls hl
  exact wX11_need_0 X h hR hl
def fX11_piece_28 (M : Mem) : Option (Int32 × Mem) := some ((-1 : Int32), M)
def fX11_piece_103 (k63 : Int32 → Int32 → Int32 → Int32 → Int32 → Mem → Option (Int32 × Mem)) (k109 : Int32 → Int32 → Int32 → Mem → Option (Int32 × Mem)) (x3 : Int32) (x4 : Int32) (x5 : Int32) (x6 : Int32) (x7 : Int32) (M : Mem) : Option (Int32 × Mem) := nx (x7 + (1 : Int32)) (fun v103 => k63 x3 x4 x5 x6 v103 M)
def fX11_piece_98 (k63 : Int32 → Int32 → Int32 → Int32 → Int32 → Mem → Option (Int32 × Mem)) (k109 : Int32 → Int32 → Int32 → Mem → Option (Int32 × Mem)) (x3 : Int32) (x4 : Int32) (x6 : Int32) (x7 : Int32) (s0 : Int32) (M : Mem) : Option (Int32 × Mem) := nx (x6 + (1 : Int32)) (fun v100 => fX11_piece_103 k63 k109 x3 x4 s0 v100 x7 M)
def fX11_piece_63 (k109 : Int32 → Int32 → Int32 → Mem → Option (Int32 × Mem)) : Nat → Int32 → Int32 → Int32 → Int32 → Int32 → Mem → Option (Int32 × Mem)
  | 0, _, _, _, _, _, _ => none
  | n + 1, x3, x4, x5, x6, x7, M => (if (10000 : Int32) ≤ x7 then k109 x4 x5 x6 M else (if inb x7 10000 = true then (if (M.1 85 (ix x7)) = x3 then (if x5 = (-1 : Int32) then fX11_piece_98 (fX11_piece_63 k109 n) k109 x3 x4 x6 x7 x7 M else fX11_piece_98 (fX11_piece_63 k109 n) k109 x3 x4 x6 x7 x5 M) else fX11_piece_103 (fX11_piece_63 k109 n) k109 x3 x4 x5 x6 x7 M) else none))
def fX11_piece_138 (s0 : Int32) (M : Mem) : Option (Int32 × Mem) := some (s0, M)
def fX11_piece_109 (x4 : Int32) (x5 : Int32) (x6 : Int32) (M : Mem) : Option (Int32 × Mem) := (if x4 = 0 then fX11_piece_138 ((x5 / (100 : Int32))) M else (if x4 = (1 : Int32) then fX11_piece_138 ((irm x5 (100 : Int32))) M else fX11_piece_138 x6 M))
def fX11_piece (x1 : Int32) (x2 : Int32) (x3 : Int32) (x4 : Int32) (M : Mem) : Option (Int32 × Mem) := (fX11_voters M).bind (fun q1 => (if q1 = 0 then fX11_piece_28 M else (fX11_isPoint M x1 x2).bind (fun q9 => (if q9 = 0 then fX11_piece_28 M else (fX11_in M (x4.toInt64) (0 : Int64) (2 : Int64)).bind (fun q22 => (if q22 = 0 then fX11_piece_28 M else (fX11_finds x1 x2 M).bind (fun q33 => (fX11_in q33 (x3.toInt64) (0 : Int64) (((q33.1 47 37) - (1 : Int32)).toInt64)).bind (fun q46 => (if q46 = 0 then some ((-1 : Int32), q33) else fX11_piece_63 fX11_piece_109 FU x3 x4 (-1 : Int32) (0 : Int32) (0 : Int32) q33)))))))))
set_option maxHeartbeats 4000000 in
set_option maxRecDepth 100000 in
theorem wX11_piece_28 {r : Int32} {M1 : Mem} (X : CX E p s m args c meth cX11_piece 8 (some .int) RX11) : ∀ {M : Mem} {H : Heap} {locs : List Loc} {ls : Array Slot}, fX11_piece_28 M = some (r, M1) → Rl E (sh_ b) (nn b) s.heap M H locs → lv_has ls 8 [] → W p l e (rm 7 0 0) s m args below meth c H locs 0 0 (MQ below (qq E (some (.int r)) (sh_ b) (nn b) M1) args s 0 0 (fr E)) (F0 m 28 ls []) := by
  obtain ⟨hx, hb, hr, hml, hown, hts, hK, hN, hO, hlk, hbs⟩ := id X
  intro M H locs ls hf hR hl
  unfold fX11_piece_28 at hf
  refine lv_iconst (v := -1) hx hb dX11_piece_28 (by decide) ?_
  cases hf
  exact x_iret hx hb hr hlk hR dX11_piece_29
set_option maxHeartbeats 4000000 in
set_option maxRecDepth 100000 in
theorem wX11_piece_103 {r : Int32} {M1 : Mem} {k63 : Int32 → Int32 → Int32 → Int32 → Int32 → Mem → Option (Int32 × Mem)} {k109 : Int32 → Int32 → Int32 → Mem → Option (Int32 × Mem)} (X : CX E p s m args c meth cX11_piece 8 (some .int) RX11) (hk63 : ∀ {x3 : Int32} {x4 : Int32} {x5 : Int32} {x6 : Int32} {x7 : Int32} {M : Mem} {H : Heap} {locs : List Loc} {ls : Array Slot}, k63 x3 x4 x5 x6 x7 M = some (r, M1) → Rl E (sh_ b) (nn b) s.heap M H locs → lv_has ls 8 [(0, .ref (eB E + 47)), (3, .int x3), (4, .int x4), (5, .int x5), (6, .int x6), (7, .int x7)] → W p l e (rm 7 0 0) s m args below meth c H locs 0 0 (MQ below (qq E (some (.int r)) (sh_ b) (nn b) M1) args s 0 0 (fr E)) (F0 m 63 ls [])) (hk109 : ∀ {x4 : Int32} {x5 : Int32} {x6 : Int32} {M : Mem} {H : Heap} {locs : List Loc} {ls : Array Slot}, k109 x4 x5 x6 M = some (r, M1) → Rl E (sh_ b) (nn b) s.heap M H locs → lv_has ls 8 [(4, .int x4), (5, .int x5), (6, .int x6)] → W p l e (rm 7 0 0) s m args below meth c H locs 0 0 (MQ below (qq E (some (.int r)) (sh_ b) (nn b) M1) args s 0 0 (fr E)) (F0 m 109 ls [])) : ∀ {x3 : Int32} {x4 : Int32} {x5 : Int32} {x6 : Int32} {x7 : Int32} {M : Mem} {H : Heap} {locs : List Loc} {ls : Array Slot}, fX11_piece_103 k63 k109 x3 x4 x5 x6 x7 M = some (r, M1) → Rl E (sh_ b) (nn b) s.heap M H locs → lv_has ls 8 [(0, .ref (eB E + 47)), (3, .int x3), (4, .int x4), (5, .int x5), (6, .int x6), (7, .int x7)] → W p l e (rm 7 0 0) s m args below meth c H locs 0 0 (MQ below (qq E (some (.int r)) (sh_ b) (nn b) M1) args s 0 0 (fr E)) (F0 m 103 ls []) := by
  obtain ⟨hx, hb, hr, hml, hown, hts, hK, hN, hO, hlk, hbs⟩ := id X
  intro x3 x4 x5 x6 x7 M H locs ls hf hR hl
  unfold fX11_piece_103 at hf
  obtain ⟨v103, e103⟩ : ∃ y : Int32, y = (x7 + (1 : Int32)) := ⟨_, rfl⟩
  have hf := nx_at e103 hf
  refine lv_iinc (v := v103) (lv' := [(7, .int v103), (0, .ref (eB E + 47)), (3, .int x3), (4, .int x4), (5, .int x5), (6, .int x6)]) hx hb dX11_piece_103 hl (k := 5) rfl (by rw [e103]; rfl) (by decide) rfl (fun ls hl => ?_)
  refine lv_goto (tgt := 63) hx hb dX11_piece_106 (by decide) ?_
  exact hk63 hf hR (lv_sub hl [1, 2, 3, 4, 5, 0] rfl)
set_option maxHeartbeats 4000000 in
set_option maxRecDepth 100000 in
theorem wX11_piece_98 {r : Int32} {M1 : Mem} {k63 : Int32 → Int32 → Int32 → Int32 → Int32 → Mem → Option (Int32 × Mem)} {k109 : Int32 → Int32 → Int32 → Mem → Option (Int32 × Mem)} (X : CX E p s m args c meth cX11_piece 8 (some .int) RX11) (hk63 : ∀ {x3 : Int32} {x4 : Int32} {x5 : Int32} {x6 : Int32} {x7 : Int32} {M : Mem} {H : Heap} {locs : List Loc} {ls : Array Slot}, k63 x3 x4 x5 x6 x7 M = some (r, M1) → Rl E (sh_ b) (nn b) s.heap M H locs → lv_has ls 8 [(0, .ref (eB E + 47)), (3, .int x3), (4, .int x4), (5, .int x5), (6, .int x6), (7, .int x7)] → W p l e (rm 7 0 0) s m args below meth c H locs 0 0 (MQ below (qq E (some (.int r)) (sh_ b) (nn b) M1) args s 0 0 (fr E)) (F0 m 63 ls [])) (hk109 : ∀ {x4 : Int32} {x5 : Int32} {x6 : Int32} {M : Mem} {H : Heap} {locs : List Loc} {ls : Array Slot}, k109 x4 x5 x6 M = some (r, M1) → Rl E (sh_ b) (nn b) s.heap M H locs → lv_has ls 8 [(4, .int x4), (5, .int x5), (6, .int x6)] → W p l e (rm 7 0 0) s m args below meth c H locs 0 0 (MQ below (qq E (some (.int r)) (sh_ b) (nn b) M1) args s 0 0 (fr E)) (F0 m 109 ls [])) : ∀ {x3 : Int32} {x4 : Int32} {x6 : Int32} {x7 : Int32} {s0 : Int32} {M : Mem} {H : Heap} {locs : List Loc} {ls : Array Slot}, fX11_piece_98 k63 k109 x3 x4 x6 x7 s0 M = some (r, M1) → Rl E (sh_ b) (nn b) s.heap M H locs → lv_has ls 8 [(0, .ref (eB E + 47)), (3, .int x3), (4, .int x4), (6, .int x6), (7, .int x7)] → W p l e (rm 7 0 0) s m args below meth c H locs 0 0 (MQ below (qq E (some (.int r)) (sh_ b) (nn b) M1) args s 0 0 (fr E)) (F0 m 98 ls [.int s0]) := by
  obtain ⟨hx, hb, hr, hml, hown, hts, hK, hN, hO, hlk, hbs⟩ := id X
  intro x3 x4 x6 x7 s0 M H locs ls hf hR hl
  unfold fX11_piece_98 at hf
  refine lv_istore (lv' := [(5, .int s0), (0, .ref (eB E + 47)), (3, .int x3), (4, .int x4), (6, .int x6), (7, .int x7)]) hx hb dX11_piece_98 hl (by decide) rfl (fun ls hl => ?_)
  obtain ⟨v100, e100⟩ : ∃ y : Int32, y = (x6 + (1 : Int32)) := ⟨_, rfl⟩
  have hf := nx_at e100 hf
  refine lv_iinc (v := v100) (lv' := [(6, .int v100), (5, .int s0), (0, .ref (eB E + 47)), (3, .int x3), (4, .int x4), (7, .int x7)]) hx hb dX11_piece_100 hl (k := 4) rfl (by rw [e100]; rfl) (by decide) rfl (fun ls hl => ?_)
  exact wX11_piece_103 X (fun hf hR hl => hk63 hf hR hl) (fun hf hR hl => hk109 hf hR hl) hf hR (lv_sub hl [2, 3, 4, 1, 0, 5] rfl)
set_option maxHeartbeats 4000000 in
set_option maxRecDepth 100000 in
theorem wX11_piece_63 {r : Int32} {M1 : Mem} {k109 : Int32 → Int32 → Int32 → Mem → Option (Int32 × Mem)} (X : CX E p s m args c meth cX11_piece 8 (some .int) RX11) (hk109 : ∀ {x4 : Int32} {x5 : Int32} {x6 : Int32} {M : Mem} {H : Heap} {locs : List Loc} {ls : Array Slot}, k109 x4 x5 x6 M = some (r, M1) → Rl E (sh_ b) (nn b) s.heap M H locs → lv_has ls 8 [(4, .int x4), (5, .int x5), (6, .int x6)] → W p l e (rm 7 0 0) s m args below meth c H locs 0 0 (MQ below (qq E (some (.int r)) (sh_ b) (nn b) M1) args s 0 0 (fr E)) (F0 m 109 ls [])) : ∀ (n : Nat) {x3 : Int32} {x4 : Int32} {x5 : Int32} {x6 : Int32} {x7 : Int32} {M : Mem} {H : Heap} {locs : List Loc} {ls : Array Slot}, fX11_piece_63 k109 n x3 x4 x5 x6 x7 M = some (r, M1) → Rl E (sh_ b) (nn b) s.heap M H locs → lv_has ls 8 [(0, .ref (eB E + 47)), (3, .int x3), (4, .int x4), (5, .int x5), (6, .int x6), (7, .int x7)] → W p l e (rm 7 0 0) s m args below meth c H locs 0 0 (MQ below (qq E (some (.int r)) (sh_ b) (nn b) M1) args s 0 0 (fr E)) (F0 m 63 ls []) := by
  obtain ⟨hx, hb, hr, hml, hown, hts, hK, hN, hO, hlk, hbs⟩ := id X
  intro n
  induction n with
  | zero =>
    intro x3 x4 x5 x6 x7 M H locs ls hf hR hl
    exact absurd (show none = some _ from hf) (fun h => by cases h)
  | succ n ih =>
    intro x3 x4 x5 x6 x7 M H locs ls hf hR hl
    rw [fX11_piece_63] at hf
    refine lv_iload hx hb dX11_piece_63 (lv_at hl 5 rfl) ?_
    refine lv_sipush (v := 10000) hx hb dX11_piece_65 (by decide) ?_
    refine lv_icmp_ge (tgt := 109) hx hb dX11_piece_68 (by decide) (fun q68 => ?_) (fun q68 => ?_)
    · have hf := (br_if hf).1 q68
      exact hk109 hf hR (lv_sub hl [2, 3, 4] rfl)
    · have hf := (br_if hf).2 q68
      refine lv_aload_n hx hb dX11_piece_71 rfl (lv_at hl 0 rfl) ?_
      refine x_get hx hb hown hts hK hR kX11 (z_47 b) (j := 35) (by decide) fl_X11_88 (v := .ref (eB E + 85)) rfl dX11_piece_72 ?_
      refine lv_iload hx hb dX11_piece_75 (lv_at hl 5 rfl) ?_
      obtain ⟨g77, hf⟩ := br_g hf
      refine x_iald hx hb hK hR (z_85 b) g77 dX11_piece_77 ?_
      refine lv_iload_n hx hb dX11_piece_78 rfl (lv_at hl 1 rfl) ?_
      refine lv_icmp_eq (tgt := 85) hx hb dX11_piece_79 (by decide) (fun q79 => ?_) (fun q79 => ?_)
      · have hf := (br_if hf).1 q79
        refine lv_iload hx hb dX11_piece_85 (lv_at hl 3 rfl) ?_
        refine lv_iconst (v := -1) hx hb dX11_piece_87 (by decide) ?_
        refine lv_icmp_ne (tgt := 96) hx hb dX11_piece_88 (by decide) (fun q88 => ?_) (fun q88 => ?_)
        · have hf := (br_if hf).2 q88
          refine lv_iload hx hb dX11_piece_96 (lv_at hl 3 rfl) ?_
          exact wX11_piece_98 X (fun hf hR hl => ih hf hR hl) (fun hf hR hl => hk109 hf hR hl) hf hR (lv_sub hl [0, 1, 2, 4, 5] rfl)
        · have hf := (br_if hf).1 q88
          refine lv_iload hx hb dX11_piece_91 (lv_at hl 5 rfl) ?_
          refine lv_goto (tgt := 98) hx hb dX11_piece_93 (by decide) ?_
          exact wX11_piece_98 X (fun hf hR hl => ih hf hR hl) (fun hf hR hl => hk109 hf hR hl) hf hR (lv_sub hl [0, 1, 2, 4, 5] rfl)
      · have hf := (br_if hf).2 q79
        refine lv_goto (tgt := 103) hx hb dX11_piece_82 (by decide) ?_
        exact wX11_piece_103 X (fun hf hR hl => ih hf hR hl) (fun hf hR hl => hk109 hf hR hl) hf hR hl
set_option maxHeartbeats 4000000 in
set_option maxRecDepth 100000 in
theorem wX11_piece_138 {r : Int32} {M1 : Mem} (X : CX E p s m args c meth cX11_piece 8 (some .int) RX11) : ∀ {s0 : Int32} {M : Mem} {H : Heap} {locs : List Loc} {ls : Array Slot}, fX11_piece_138 s0 M = some (r, M1) → Rl E (sh_ b) (nn b) s.heap M H locs → lv_has ls 8 [] → W p l e (rm 7 0 0) s m args below meth c H locs 0 0 (MQ below (qq E (some (.int r)) (sh_ b) (nn b) M1) args s 0 0 (fr E)) (F0 m 138 ls [.int s0]) := by
  obtain ⟨hx, hb, hr, hml, hown, hts, hK, hN, hO, hlk, hbs⟩ := id X
  intro s0 M H locs ls hf hR hl
  unfold fX11_piece_138 at hf
  cases hf
  exact x_iret hx hb hr hlk hR dX11_piece_138
set_option maxHeartbeats 4000000 in
set_option maxRecDepth 100000 in
theorem wX11_piece_109 {r : Int32} {M1 : Mem} (X : CX E p s m args c meth cX11_piece 8 (some .int) RX11) : ∀ {x4 : Int32} {x5 : Int32} {x6 : Int32} {M : Mem} {H : Heap} {locs : List Loc} {ls : Array Slot}, fX11_piece_109 x4 x5 x6 M = some (r, M1) → Rl E (sh_ b) (nn b) s.heap M H locs → lv_has ls 8 [(4, .int x4), (5, .int x5), (6, .int x6)] → W p l e (rm 7 0 0) s m args below meth c H locs 0 0 (MQ below (qq E (some (.int r)) (sh_ b) (nn b) M1) args s 0 0 (fr E)) (F0 m 109 ls []) := by
  obtain ⟨hx, hb, hr, hml, hown, hts, hK, hN, hO, hlk, hbs⟩ := id X
  intro x4 x5 x6 M H locs ls hf hR hl
  unfold fX11_piece_109 at hf
  refine lv_iload hx hb dX11_piece_109 (lv_at hl 0 rfl) ?_
  refine lv_if_ne (tgt := 122) hx hb dX11_piece_111 (by decide) (fun q111 => ?_) (fun q111 => ?_)
  · have hf := (br_if hf).2 q111
    refine lv_iload hx hb dX11_piece_122 (lv_at hl 0 rfl) ?_
    refine lv_iconst (v := 1) hx hb dX11_piece_124 (by decide) ?_
    refine lv_icmp_ne (tgt := 136) hx hb dX11_piece_125 (by decide) (fun q125 => ?_) (fun q125 => ?_)
    · have hf := (br_if hf).2 q125
      refine lv_iload hx hb dX11_piece_136 (lv_at hl 2 rfl) ?_
      exact wX11_piece_138 X hf hR (lv_sub hl [] rfl)
    · have hf := (br_if hf).1 q125
      refine lv_iload hx hb dX11_piece_128 (lv_at hl 1 rfl) ?_
      refine lv_bipush (v := 100) hx hb dX11_piece_130 (by decide) ?_
      refine lv_irem hx hb dX11_piece_132 (by decide) ?_
      refine W.eq (g2 := F0 m 133 ls [.int (irm x5 (100 : Int32))]) rfl ?_
      refine lv_goto (tgt := 138) hx hb dX11_piece_133 (by decide) ?_
      exact wX11_piece_138 X hf hR (lv_sub hl [] rfl)
  · have hf := (br_if hf).1 q111
    refine lv_iload hx hb dX11_piece_114 (lv_at hl 1 rfl) ?_
    refine lv_bipush (v := 100) hx hb dX11_piece_116 (by decide) ?_
    refine lv_idiv hx hb dX11_piece_118 (by decide) ?_
    refine lv_goto (tgt := 138) hx hb dX11_piece_119 (by decide) ?_
    exact wX11_piece_138 X hf hR (lv_sub hl [] rfl)
set_option maxHeartbeats 4000000 in
set_option maxRecDepth 100000 in
theorem wX11_piece_0 {r : Int32} {M1 : Mem} (X : CX E p s m args c meth cX11_piece 8 (some .int) RX11) : ∀ {x1 : Int32} {x2 : Int32} {x3 : Int32} {x4 : Int32} {M : Mem} {H : Heap} {locs : List Loc} {ls : Array Slot}, fX11_piece x1 x2 x3 x4 M = some (r, M1) → Rl E (sh_ b) (nn b) s.heap M H locs → lv_has ls 8 [(0, .ref (eB E + 47)), (1, .int x1), (2, .int x2), (3, .int x3), (4, .int x4)] → W p l e (rm 7 0 0) s m args below meth c H locs 0 0 (MQ below (qq E (some (.int r)) (sh_ b) (nn b) M1) args s 0 0 (fr E)) (F0 m 0 ls []) := by
  obtain ⟨hx, hb, hr, hml, hown, hts, hK, hN, hO, hlk, hbs⟩ := id X
  intro x1 x2 x3 x4 M H locs ls hf hR hl
  unfold fX11_piece at hf
  refine lv_aload_n hx hb dX11_piece_0 rfl (lv_at hl 0 rfl) ?_
  obtain ⟨q1, c1, hf⟩ := br_b hf
  refine x_callV (k := 47) (As := []) (rest := []) (st1 := [.int q1]) X hR (ctX11_voters c1) ml_X11_237 im_X11_voters se_X11_voters in_X11 co_X11_voters yo_X11_voters rfl kX11 (z_47 b) (rm_ok (by decide) (by decide)) rfl hl.1 rfl rfl (Nat.le_of_ble_eq_true rfl) dX11_piece_1 ⟨Nat.zero_le _, Nat.zero_le _⟩ (fun H locs hR => ?_)
  refine lv_if_eq (tgt := 28) hx hb dX11_piece_4 (by decide) (fun q4 => ?_) (fun q4 => ?_)
  · have hf := (br_if hf).1 q4
    exact wX11_piece_28 X hf hR (lv_sub hl [] rfl)
  · have hf := (br_if hf).2 q4
    refine lv_iload_n hx hb dX11_piece_7 rfl (lv_at hl 1 rfl) ?_
    refine lv_iload_n hx hb dX11_piece_8 rfl (lv_at hl 2 rfl) ?_
    obtain ⟨q9, c9, hf⟩ := br_b hf
    refine x_callS (As := [.int x1, .int x2]) (rest := []) (st1 := [.int q9]) X hR (ctX11_isPoint c9) ml_X11_251 st_X11_isPoint in_X11 co_X11_isPoint yo_X11_isPoint (rm_ok (by decide) (by decide)) rfl hl.1 rfl rfl (Nat.le_of_ble_eq_true rfl) dX11_piece_9 ⟨Nat.zero_le _, Nat.zero_le _⟩ (fun H locs hR => ?_)
    refine lv_if_eq (tgt := 28) hx hb dX11_piece_12 (by decide) (fun q12 => ?_) (fun q12 => ?_)
    · have hf := (br_if hf).1 q12
      exact wX11_piece_28 X hf hR (lv_sub hl [] rfl)
    · have hf := (br_if hf).2 q12
      refine lv_iload hx hb dX11_piece_15 (lv_at hl 4 rfl) ?_
      refine lv_i2l (v := x4.toInt64) hx hb dX11_piece_17 rfl ?_
      refine lv_lconst (v := 0) hx hb dX11_piece_18 (by decide) ?_
      refine lv_ldc2 hx hb hown (hts _ kl_X11_331) dX11_piece_19 ?_
      obtain ⟨q22, c22, hf⟩ := br_b hf
      refine x_callS (As := [.long x4.toInt64, .long (0 : Int64), .long (2 : Int64)]) (rest := []) (st1 := [.int q22]) X hR (ctX11_in c22) ml_X11_122 st_X11_in in_X11 co_X11_in yo_X11_in (rm_ok (by decide) (by decide)) rfl hl.1 rfl rfl (Nat.le_of_ble_eq_true rfl) dX11_piece_22 ⟨Nat.zero_le _, Nat.zero_le _⟩ (fun H locs hR => ?_)
      refine lv_if_ne (tgt := 30) hx hb dX11_piece_25 (by decide) (fun q25 => ?_) (fun q25 => ?_)
      · have hf := (br_if hf).2 q25
        refine lv_aload_n hx hb dX11_piece_30 rfl (lv_at hl 0 rfl) ?_
        refine lv_iload_n hx hb dX11_piece_31 rfl (lv_at hl 1 rfl) ?_
        refine lv_iload_n hx hb dX11_piece_32 rfl (lv_at hl 2 rfl) ?_
        obtain ⟨q33, c33, hf⟩ := br_b hf
        refine x_callV (k := 47) (As := [.int x1, .int x2]) (rest := []) (st1 := []) X hR (ctX11_finds c33) ml_X11_357 im_X11_finds se_X11_finds in_X11 co_X11_finds yo_X11_finds rfl kX11 (z_47 b) (rm_ok (by decide) (by decide)) rfl hl.1 rfl rfl (Nat.le_of_ble_eq_true rfl) dX11_piece_33 ⟨Nat.zero_le _, Nat.zero_le _⟩ (fun H locs hR => ?_)
        refine lv_iload_n hx hb dX11_piece_36 rfl (lv_at hl 3 rfl) ?_
        refine lv_i2l (v := x3.toInt64) hx hb dX11_piece_37 rfl ?_
        refine lv_lconst (v := 0) hx hb dX11_piece_38 (by decide) ?_
        refine lv_aload_n hx hb dX11_piece_39 rfl (lv_at hl 0 rfl) ?_
        refine x_get hx hb hown hts hK hR kX11 (z_47 b) (j := 37) (by decide) fl_X11_351 (v := .int (q33.1 47 37)) rfl dX11_piece_40 ?_
        refine lv_iconst (v := 1) hx hb dX11_piece_43 (by decide) ?_
        refine lv_isub hx hb dX11_piece_44 ?_
        refine lv_i2l (v := ((q33.1 47 37) - (1 : Int32)).toInt64) hx hb dX11_piece_45 rfl ?_
        obtain ⟨q46, c46, hf⟩ := br_b hf
        refine x_callS (As := [.long x3.toInt64, .long (0 : Int64), .long ((q33.1 47 37) - (1 : Int32)).toInt64]) (rest := []) (st1 := [.int q46]) X hR (ctX11_in c46) ml_X11_122 st_X11_in in_X11 co_X11_in yo_X11_in (rm_ok (by decide) (by decide)) rfl hl.1 rfl rfl (Nat.le_of_ble_eq_true rfl) dX11_piece_46 ⟨Nat.zero_le _, Nat.zero_le _⟩ (fun H locs hR => ?_)
        refine lv_if_ne (tgt := 54) hx hb dX11_piece_49 (by decide) (fun q49 => ?_) (fun q49 => ?_)
        · have hf := (br_if hf).2 q49
          refine lv_iconst (v := -1) hx hb dX11_piece_54 (by decide) ?_
          refine lv_istore (lv' := [(5, .int (-1 : Int32)), (0, .ref (eB E + 47)), (1, .int x1), (2, .int x2), (3, .int x3), (4, .int x4)]) hx hb dX11_piece_55 hl (by decide) rfl (fun ls hl => ?_)
          refine lv_iconst (v := 0) hx hb dX11_piece_57 (by decide) ?_
          refine lv_istore (lv' := [(6, .int (0 : Int32)), (5, .int (-1 : Int32)), (0, .ref (eB E + 47)), (1, .int x1), (2, .int x2), (3, .int x3), (4, .int x4)]) hx hb dX11_piece_58 hl (by decide) rfl (fun ls hl => ?_)
          refine lv_iconst (v := 0) hx hb dX11_piece_60 (by decide) ?_
          refine lv_istore (lv' := [(7, .int (0 : Int32)), (6, .int (0 : Int32)), (5, .int (-1 : Int32)), (0, .ref (eB E + 47)), (1, .int x1), (2, .int x2), (3, .int x3), (4, .int x4)]) hx hb dX11_piece_61 hl (by decide) rfl (fun ls hl => ?_)
          exact wX11_piece_63 X (fun hf hR hl => wX11_piece_109 X hf hR hl) FU hf hR (lv_sub hl [3, 6, 7, 2, 1, 0] rfl)
        · have hf := (br_if hf).1 q49
          refine lv_iconst (v := -1) hx hb dX11_piece_52 (by decide) ?_
          cases hf
          exact x_iret hx hb hr hlk hR dX11_piece_53
      · have hf := (br_if hf).1 q25
        exact wX11_piece_28 X hf hR (lv_sub hl [] rfl)
theorem ctX11_piece {l : Launch} {E : Ge} {b : Bool} {M : Mem} {x1 : Int32} {x2 : Int32} {x3 : Int32} {x4 : Int32} {r : Int32} {M1 : Mem} (h : fX11_piece x1 x2 x3 x4 M = some (r, M1)) : CT l E yX11_piece cX11_piece 8 (some .int) 7 0 0 [.ref (eB E + 47), .int x1, .int x2, .int x3, .int x4] (some (.int r)) (sh_ b) (nn b) M (sh_ b) (nn b) M1 := by
  refine met_of (by decide) (Nat.le_of_ble_eq_true rfl) ?_
  intro p e s m args below meth c X _ hR ls hl
  exact wX11_piece_0 X h hR hl
def fX11_place_45 (M : Mem) (s0 : Int32) : Option Int32 := some s0
def fX11_place_18 (M : Mem) : Option Int32 := fX11_place_45 M (-1 : Int32)
def fX11_place (M : Mem) (x1 : Int32) (x2 : Int32) : Option Int32 := (fX11_isPlace M x1).bind (fun q2 => (if q2 = 0 then fX11_place_18 M else (fX11_in M (x2.toInt64) (0 : Int64) (1 : Int64)).bind (fun q12 => (if q12 = 0 then fX11_place_18 M else (if x2 = 0 then (if inb x1 20 = true then fX11_place_45 M ((M.1 68 (ix x1))) else none) else (if inb x1 20 = true then fX11_place_45 M ((M.1 71 (ix x1))) else none))))))
set_option maxHeartbeats 4000000 in
set_option maxRecDepth 100000 in
theorem wX11_place_45 {r : Int32} {M : Mem} (X : CX E p s m args c meth cX11_place 3 (some .int) RX11) : ∀ {s0 : Int32} {H : Heap} {locs : List Loc} {ls : Array Slot}, fX11_place_45 M s0 = some r → Rl E (sh_ b) (nn b) s.heap M H locs → lv_has ls 3 [] → W p l e (rm 3 0 0) s m args below meth c H locs 0 0 (MQ below (qq E (some (.int r)) (sh_ b) (nn b) M) args s 0 0 (fr E)) (F0 m 45 ls [.int s0]) := by
  obtain ⟨hx, hb, hr, hml, hown, hts, hK, hN, hO, hlk, hbs⟩ := id X
  intro s0 H locs ls hf hR hl
  unfold fX11_place_45 at hf
  cases hf
  exact x_iret hx hb hr hlk hR dX11_place_45
set_option maxHeartbeats 4000000 in
set_option maxRecDepth 100000 in
theorem wX11_place_18 {r : Int32} {M : Mem} (X : CX E p s m args c meth cX11_place 3 (some .int) RX11) : ∀ {H : Heap} {locs : List Loc} {ls : Array Slot}, fX11_place_18 M = some r → Rl E (sh_ b) (nn b) s.heap M H locs → lv_has ls 3 [] → W p l e (rm 3 0 0) s m args below meth c H locs 0 0 (MQ below (qq E (some (.int r)) (sh_ b) (nn b) M) args s 0 0 (fr E)) (F0 m 18 ls []) := by
  obtain ⟨hx, hb, hr, hml, hown, hts, hK, hN, hO, hlk, hbs⟩ := id X
  intro H locs ls hf hR hl
  unfold fX11_place_18 at hf
  refine lv_iconst (v := -1) hx hb dX11_place_18 (by decide) ?_
  refine lv_goto (tgt := 45) hx hb dX11_place_19 (by decide) ?_
  exact wX11_place_45 X hf hR hl
set_option maxHeartbeats 4000000 in
set_option maxRecDepth 100000 in
theorem wX11_place_0 {r : Int32} {M : Mem} (X : CX E p s m args c meth cX11_place 3 (some .int) RX11) : ∀ {x1 : Int32} {x2 : Int32} {H : Heap} {locs : List Loc} {ls : Array Slot}, fX11_place M x1 x2 = some r → Rl E (sh_ b) (nn b) s.heap M H locs → lv_has ls 3 [(0, .ref (eB E + 47)), (1, .int x1), (2, .int x2)] → W p l e (rm 3 0 0) s m args below meth c H locs 0 0 (MQ below (qq E (some (.int r)) (sh_ b) (nn b) M) args s 0 0 (fr E)) (F0 m 0 ls []) := by
  obtain ⟨hx, hb, hr, hml, hown, hts, hK, hN, hO, hlk, hbs⟩ := id X
  intro x1 x2 H locs ls hf hR hl
  unfold fX11_place at hf
  refine lv_aload_n hx hb dX11_place_0 rfl (lv_at hl 0 rfl) ?_
  refine lv_iload_n hx hb dX11_place_1 rfl (lv_at hl 1 rfl) ?_
  obtain ⟨q2, c2, hf⟩ := br_b hf
  refine x_callV (k := 47) (As := [.int x1]) (rest := []) (st1 := [.int q2]) X hR (ctX11_isPlace c2) ml_X11_248 im_X11_isPlace se_X11_isPlace in_X11 co_X11_isPlace yo_X11_isPlace rfl kX11 (z_47 b) (rm_ok (by decide) (by decide)) rfl hl.1 rfl rfl (Nat.le_of_ble_eq_true rfl) dX11_place_2 ⟨Nat.zero_le _, Nat.zero_le _⟩ (fun H locs hR => ?_)
  refine lv_if_eq (tgt := 18) hx hb dX11_place_5 (by decide) (fun q5 => ?_) (fun q5 => ?_)
  · have hf := (br_if hf).1 q5
    exact wX11_place_18 X hf hR (lv_sub hl [] rfl)
  · have hf := (br_if hf).2 q5
    refine lv_iload_n hx hb dX11_place_8 rfl (lv_at hl 2 rfl) ?_
    refine lv_i2l (v := x2.toInt64) hx hb dX11_place_9 rfl ?_
    refine lv_lconst (v := 0) hx hb dX11_place_10 (by decide) ?_
    refine lv_lconst (v := 1) hx hb dX11_place_11 (by decide) ?_
    obtain ⟨q12, c12, hf⟩ := br_b hf
    refine x_callS (As := [.long x2.toInt64, .long (0 : Int64), .long (1 : Int64)]) (rest := []) (st1 := [.int q12]) X hR (ctX11_in c12) ml_X11_122 st_X11_in in_X11 co_X11_in yo_X11_in (rm_ok (by decide) (by decide)) rfl hl.1 rfl rfl (Nat.le_of_ble_eq_true rfl) dX11_place_12 ⟨Nat.zero_le _, Nat.zero_le _⟩ (fun H locs hR => ?_)
    refine lv_if_ne (tgt := 22) hx hb dX11_place_15 (by decide) (fun q15 => ?_) (fun q15 => ?_)
    · have hf := (br_if hf).2 q15
      refine lv_iload_n hx hb dX11_place_22 rfl (lv_at hl 2 rfl) ?_
      refine lv_if_ne (tgt := 37) hx hb dX11_place_23 (by decide) (fun q23 => ?_) (fun q23 => ?_)
      · have hf := (br_if hf).2 q23
        refine lv_aload_n hx hb dX11_place_37 rfl (lv_at hl 0 rfl) ?_
        refine x_get hx hb hown hts hK hR kX11 (z_47 b) (j := 13) (by decide) fl_X11_36 (v := .ref (eB E + 70)) rfl dX11_place_38 ?_
        refine lv_iconst (v := 0) hx hb dX11_place_41 (by decide) ?_
        refine x_aald5 hx hb hK hR (z_70 b) (by decide) (r := 71) rfl dX11_place_42 ?_
        refine lv_iload_n hx hb dX11_place_43 rfl (lv_at hl 1 rfl) ?_
        obtain ⟨g44, hf⟩ := br_g hf
        refine x_iald hx hb hK hR (z_71 b) g44 dX11_place_44 ?_
        exact wX11_place_45 X hf hR (lv_sub hl [] rfl)
      · have hf := (br_if hf).1 q23
        refine lv_aload_n hx hb dX11_place_26 rfl (lv_at hl 0 rfl) ?_
        refine x_get hx hb hown hts hK hR kX11 (z_47 b) (j := 12) (by decide) fl_X11_33 (v := .ref (eB E + 67)) rfl dX11_place_27 ?_
        refine lv_iconst (v := 0) hx hb dX11_place_30 (by decide) ?_
        refine x_aald5 hx hb hK hR (z_67 b) (by decide) (r := 68) rfl dX11_place_31 ?_
        refine lv_iload_n hx hb dX11_place_32 rfl (lv_at hl 1 rfl) ?_
        obtain ⟨g33, hf⟩ := br_g hf
        refine x_iald hx hb hK hR (z_68 b) g33 dX11_place_33 ?_
        refine lv_goto (tgt := 45) hx hb dX11_place_34 (by decide) ?_
        exact wX11_place_45 X hf hR (lv_sub hl [] rfl)
    · have hf := (br_if hf).1 q15
      exact wX11_place_18 X hf hR (lv_sub hl [] rfl)
theorem ctX11_place {l : Launch} {E : Ge} {b : Bool} {M : Mem} {x1 : Int32} {x2 : Int32} {r : Int32} (h : fX11_place M x1 x2 = some r) : CT l E yX11_place cX11_place 3 (some .int) 3 0 0 [.ref (eB E + 47), .int x1, .int x2] (some (.int r)) (sh_ b) (nn b) M (sh_ b) (nn b) M := by
  refine met_of (by decide) (Nat.le_of_ble_eq_true rfl) ?_
  intro p e s m args below meth c X _ hR ls hl
  exact wX11_place_0 X h hR hl
def fX11_proof_54 (k74 : Int32 → Int32 → Int32 → Int32 → Mem → Option (Int32 × Mem)) (k100 : Int32 → Int32 → Int32 → Mem → Option (Int32 × Mem)) : Nat → Int32 → Int32 → Int32 → Int32 → Mem → Option (Int32 × Mem)
  | 0, _, _, _, _, _ => none
  | n + 1, x1, x2, x3, x4, M => (if (M.1 47 27) ≤ x4 then k100 x1 x2 x3 M else (fX11_meet M x2 x3 x4).bind (fun q68 => (if q68 = 0 then k74 x1 x2 x3 x4 M else nx (x4 + (1 : Int32)) (fun v94 => fX11_proof_54 k74 k100 n x1 x2 x3 v94 M))))
def fX11_proof_100 (k41 : Int32 → Int32 → Int32 → Mem → Option (Int32 × Mem)) (k74 : Int32 → Int32 → Int32 → Int32 → Mem → Option (Int32 × Mem)) (k106 : Int32 → Int32 → Mem → Option (Int32 × Mem)) (x1 : Int32) (x2 : Int32) (x3 : Int32) (M : Mem) : Option (Int32 × Mem) := nx (x3 + (1 : Int32)) (fun v100 => k41 x1 x2 v100 M)
def fX11_proof_41 (k74 : Int32 → Int32 → Int32 → Int32 → Mem → Option (Int32 × Mem)) (k106 : Int32 → Int32 → Mem → Option (Int32 × Mem)) : Nat → Int32 → Int32 → Int32 → Mem → Option (Int32 × Mem)
  | 0, _, _, _, _ => none
  | n + 1, x1, x2, x3, M => (if (M.1 47 27) ≤ x3 then k106 x1 x2 M else nx (x3 + (1 : Int32)) (fun v52 => fX11_proof_54 k74 (fX11_proof_100 (fX11_proof_41 k74 k106 n) k74 k106) FU x1 x2 x3 v52 M))
def fX11_proof_106 (k29 : Int32 → Int32 → Mem → Option (Int32 × Mem)) (k74 : Int32 → Int32 → Int32 → Int32 → Mem → Option (Int32 × Mem)) (k112 : Mem → Option (Int32 × Mem)) (x1 : Int32) (x2 : Int32) (M : Mem) : Option (Int32 × Mem) := nx (x2 + (1 : Int32)) (fun v106 => k29 x1 v106 M)
def fX11_proof_29 (k74 : Int32 → Int32 → Int32 → Int32 → Mem → Option (Int32 × Mem)) (k112 : Mem → Option (Int32 × Mem)) : Nat → Int32 → Int32 → Mem → Option (Int32 × Mem)
  | 0, _, _, _ => none
  | n + 1, x1, x2, M => (if (M.1 47 27) ≤ x2 then k112 M else nx (x2 + (1 : Int32)) (fun v40 => fX11_proof_41 k74 (fX11_proof_106 (fX11_proof_29 k74 k112 n) k74 k112) FU x1 x2 v40 M))
def fX11_proof_93 (s0 : Int32) (M : Mem) : Option (Int32 × Mem) := some (s0, M)
def fX11_proof_74 (x1 : Int32) (x2 : Int32) (x3 : Int32) (x4 : Int32) (M : Mem) : Option (Int32 × Mem) := (if x1 = 0 then fX11_proof_93 x2 M else (if x1 = (1 : Int32) then fX11_proof_93 x3 M else fX11_proof_93 x4 M))
def fX11_proof_112 (M : Mem) : Option (Int32 × Mem) := some ((-1 : Int32), M)
def fX11_proof (x1 : Int32) (M : Mem) : Option (Int32 × Mem) := (fX11_in M (x1.toInt64) (0 : Int64) (2 : Int64)).bind (fun q6 => (if q6 = 0 then some ((-1 : Int32), M) else (fX11_knows M).bind (fun q15 => (if (q15.1 47 28) ≤ 0 then fX11_proof_29 fX11_proof_74 fX11_proof_112 FU x1 (0 : Int32) q15 else some ((-1 : Int32), q15)))))
set_option maxHeartbeats 4000000 in
set_option maxRecDepth 100000 in
theorem wX11_proof_54 {r : Int32} {M1 : Mem} {k74 : Int32 → Int32 → Int32 → Int32 → Mem → Option (Int32 × Mem)} {k100 : Int32 → Int32 → Int32 → Mem → Option (Int32 × Mem)} (X : CX E p s m args c meth cX11_proof 5 (some .int) RX11) (hk74 : ∀ {x1 : Int32} {x2 : Int32} {x3 : Int32} {x4 : Int32} {M : Mem} {H : Heap} {locs : List Loc} {ls : Array Slot}, k74 x1 x2 x3 x4 M = some (r, M1) → Rl E (sh_ b) (nn b) s.heap M H locs → lv_has ls 5 [(1, .int x1), (2, .int x2), (3, .int x3), (4, .int x4)] → W p l e (rm 7 0 0) s m args below meth c H locs 0 0 (MQ below (qq E (some (.int r)) (sh_ b) (nn b) M1) args s 0 0 (fr E)) (F0 m 74 ls [])) (hk100 : ∀ {x1 : Int32} {x2 : Int32} {x3 : Int32} {M : Mem} {H : Heap} {locs : List Loc} {ls : Array Slot}, k100 x1 x2 x3 M = some (r, M1) → Rl E (sh_ b) (nn b) s.heap M H locs → lv_has ls 5 [(0, .ref (eB E + 47)), (1, .int x1), (2, .int x2), (3, .int x3)] → W p l e (rm 7 0 0) s m args below meth c H locs 0 0 (MQ below (qq E (some (.int r)) (sh_ b) (nn b) M1) args s 0 0 (fr E)) (F0 m 100 ls [])) : ∀ (n : Nat) {x1 : Int32} {x2 : Int32} {x3 : Int32} {x4 : Int32} {M : Mem} {H : Heap} {locs : List Loc} {ls : Array Slot}, fX11_proof_54 k74 k100 n x1 x2 x3 x4 M = some (r, M1) → Rl E (sh_ b) (nn b) s.heap M H locs → lv_has ls 5 [(0, .ref (eB E + 47)), (1, .int x1), (2, .int x2), (3, .int x3), (4, .int x4)] → W p l e (rm 7 0 0) s m args below meth c H locs 0 0 (MQ below (qq E (some (.int r)) (sh_ b) (nn b) M1) args s 0 0 (fr E)) (F0 m 54 ls []) := by
  obtain ⟨hx, hb, hr, hml, hown, hts, hK, hN, hO, hlk, hbs⟩ := id X
  intro n
  induction n with
  | zero =>
    intro x1 x2 x3 x4 M H locs ls hf hR hl
    exact absurd (show none = some _ from hf) (fun h => by cases h)
  | succ n ih =>
    intro x1 x2 x3 x4 M H locs ls hf hR hl
    rw [fX11_proof_54] at hf
    refine lv_iload hx hb dX11_proof_54 (lv_at hl 4 rfl) ?_
    refine lv_aload_n hx hb dX11_proof_56 rfl (lv_at hl 0 rfl) ?_
    refine x_get hx hb hown hts hK hR kX11 (z_47 b) (j := 27) (by decide) fl_X11_288 (v := .int (M.1 47 27)) rfl dX11_proof_57 ?_
    refine lv_icmp_ge (tgt := 100) hx hb dX11_proof_60 (by decide) (fun q60 => ?_) (fun q60 => ?_)
    · have hf := (br_if hf).1 q60
      exact hk100 hf hR (lv_sub hl [0, 1, 2, 3] rfl)
    · have hf := (br_if hf).2 q60
      refine lv_aload_n hx hb dX11_proof_63 rfl (lv_at hl 0 rfl) ?_
      refine lv_iload_n hx hb dX11_proof_64 rfl (lv_at hl 2 rfl) ?_
      refine lv_iload_n hx hb dX11_proof_65 rfl (lv_at hl 3 rfl) ?_
      refine lv_iload hx hb dX11_proof_66 (lv_at hl 4 rfl) ?_
      obtain ⟨q68, c68, hf⟩ := br_b hf
      refine x_callV (k := 47) (As := [.int x2, .int x3, .int x4]) (rest := []) (st1 := [.int q68]) X hR (ctX11_meet c68) ml_X11_333 im_X11_meet se_X11_meet in_X11 co_X11_meet yo_X11_meet rfl kX11 (z_47 b) (rm_ok (by decide) (by decide)) rfl hl.1 rfl rfl (Nat.le_of_ble_eq_true rfl) dX11_proof_68 ⟨Nat.zero_le _, Nat.zero_le _⟩ (fun H locs hR => ?_)
      refine lv_if_ne (tgt := 94) hx hb dX11_proof_71 (by decide) (fun q71 => ?_) (fun q71 => ?_)
      · have hf := (br_if hf).2 q71
        obtain ⟨v94, e94⟩ : ∃ y : Int32, y = (x4 + (1 : Int32)) := ⟨_, rfl⟩
        have hf := nx_at e94 hf
        refine lv_iinc (v := v94) (lv' := [(4, .int v94), (0, .ref (eB E + 47)), (1, .int x1), (2, .int x2), (3, .int x3)]) hx hb dX11_proof_94 hl (k := 4) rfl (by rw [e94]; rfl) (by decide) rfl (fun ls hl => ?_)
        refine lv_goto (tgt := 54) hx hb dX11_proof_97 (by decide) ?_
        exact ih hf hR (lv_sub hl [1, 2, 3, 4, 0] rfl)
      · have hf := (br_if hf).1 q71
        exact hk74 hf hR (lv_sub hl [1, 2, 3, 4] rfl)
set_option maxHeartbeats 4000000 in
set_option maxRecDepth 100000 in
theorem wX11_proof_100 {r : Int32} {M1 : Mem} {k41 : Int32 → Int32 → Int32 → Mem → Option (Int32 × Mem)} {k74 : Int32 → Int32 → Int32 → Int32 → Mem → Option (Int32 × Mem)} {k106 : Int32 → Int32 → Mem → Option (Int32 × Mem)} (X : CX E p s m args c meth cX11_proof 5 (some .int) RX11) (hk41 : ∀ {x1 : Int32} {x2 : Int32} {x3 : Int32} {M : Mem} {H : Heap} {locs : List Loc} {ls : Array Slot}, k41 x1 x2 x3 M = some (r, M1) → Rl E (sh_ b) (nn b) s.heap M H locs → lv_has ls 5 [(0, .ref (eB E + 47)), (1, .int x1), (2, .int x2), (3, .int x3)] → W p l e (rm 7 0 0) s m args below meth c H locs 0 0 (MQ below (qq E (some (.int r)) (sh_ b) (nn b) M1) args s 0 0 (fr E)) (F0 m 41 ls [])) (hk74 : ∀ {x1 : Int32} {x2 : Int32} {x3 : Int32} {x4 : Int32} {M : Mem} {H : Heap} {locs : List Loc} {ls : Array Slot}, k74 x1 x2 x3 x4 M = some (r, M1) → Rl E (sh_ b) (nn b) s.heap M H locs → lv_has ls 5 [(1, .int x1), (2, .int x2), (3, .int x3), (4, .int x4)] → W p l e (rm 7 0 0) s m args below meth c H locs 0 0 (MQ below (qq E (some (.int r)) (sh_ b) (nn b) M1) args s 0 0 (fr E)) (F0 m 74 ls [])) (hk106 : ∀ {x1 : Int32} {x2 : Int32} {M : Mem} {H : Heap} {locs : List Loc} {ls : Array Slot}, k106 x1 x2 M = some (r, M1) → Rl E (sh_ b) (nn b) s.heap M H locs → lv_has ls 5 [(0, .ref (eB E + 47)), (1, .int x1), (2, .int x2)] → W p l e (rm 7 0 0) s m args below meth c H locs 0 0 (MQ below (qq E (some (.int r)) (sh_ b) (nn b) M1) args s 0 0 (fr E)) (F0 m 106 ls [])) : ∀ {x1 : Int32} {x2 : Int32} {x3 : Int32} {M : Mem} {H : Heap} {locs : List Loc} {ls : Array Slot}, fX11_proof_100 k41 k74 k106 x1 x2 x3 M = some (r, M1) → Rl E (sh_ b) (nn b) s.heap M H locs → lv_has ls 5 [(0, .ref (eB E + 47)), (1, .int x1), (2, .int x2), (3, .int x3)] → W p l e (rm 7 0 0) s m args below meth c H locs 0 0 (MQ below (qq E (some (.int r)) (sh_ b) (nn b) M1) args s 0 0 (fr E)) (F0 m 100 ls []) := by
  obtain ⟨hx, hb, hr, hml, hown, hts, hK, hN, hO, hlk, hbs⟩ := id X
  intro x1 x2 x3 M H locs ls hf hR hl
  unfold fX11_proof_100 at hf
  obtain ⟨v100, e100⟩ : ∃ y : Int32, y = (x3 + (1 : Int32)) := ⟨_, rfl⟩
  have hf := nx_at e100 hf
  refine lv_iinc (v := v100) (lv' := [(3, .int v100), (0, .ref (eB E + 47)), (1, .int x1), (2, .int x2)]) hx hb dX11_proof_100 hl (k := 3) rfl (by rw [e100]; rfl) (by decide) rfl (fun ls hl => ?_)
  refine lv_goto (tgt := 41) hx hb dX11_proof_103 (by decide) ?_
  exact hk41 hf hR (lv_sub hl [1, 2, 3, 0] rfl)
set_option maxHeartbeats 4000000 in
set_option maxRecDepth 100000 in
theorem wX11_proof_41 {r : Int32} {M1 : Mem} {k74 : Int32 → Int32 → Int32 → Int32 → Mem → Option (Int32 × Mem)} {k106 : Int32 → Int32 → Mem → Option (Int32 × Mem)} (X : CX E p s m args c meth cX11_proof 5 (some .int) RX11) (hk74 : ∀ {x1 : Int32} {x2 : Int32} {x3 : Int32} {x4 : Int32} {M : Mem} {H : Heap} {locs : List Loc} {ls : Array Slot}, k74 x1 x2 x3 x4 M = some (r, M1) → Rl E (sh_ b) (nn b) s.heap M H locs → lv_has ls 5 [(1, .int x1), (2, .int x2), (3, .int x3), (4, .int x4)] → W p l e (rm 7 0 0) s m args below meth c H locs 0 0 (MQ below (qq E (some (.int r)) (sh_ b) (nn b) M1) args s 0 0 (fr E)) (F0 m 74 ls [])) (hk106 : ∀ {x1 : Int32} {x2 : Int32} {M : Mem} {H : Heap} {locs : List Loc} {ls : Array Slot}, k106 x1 x2 M = some (r, M1) → Rl E (sh_ b) (nn b) s.heap M H locs → lv_has ls 5 [(0, .ref (eB E + 47)), (1, .int x1), (2, .int x2)] → W p l e (rm 7 0 0) s m args below meth c H locs 0 0 (MQ below (qq E (some (.int r)) (sh_ b) (nn b) M1) args s 0 0 (fr E)) (F0 m 106 ls [])) : ∀ (n : Nat) {x1 : Int32} {x2 : Int32} {x3 : Int32} {M : Mem} {H : Heap} {locs : List Loc} {ls : Array Slot}, fX11_proof_41 k74 k106 n x1 x2 x3 M = some (r, M1) → Rl E (sh_ b) (nn b) s.heap M H locs → lv_has ls 5 [(0, .ref (eB E + 47)), (1, .int x1), (2, .int x2), (3, .int x3)] → W p l e (rm 7 0 0) s m args below meth c H locs 0 0 (MQ below (qq E (some (.int r)) (sh_ b) (nn b) M1) args s 0 0 (fr E)) (F0 m 41 ls []) := by
  obtain ⟨hx, hb, hr, hml, hown, hts, hK, hN, hO, hlk, hbs⟩ := id X
  intro n
  induction n with
  | zero =>
    intro x1 x2 x3 M H locs ls hf hR hl
    exact absurd (show none = some _ from hf) (fun h => by cases h)
  | succ n ih =>
    intro x1 x2 x3 M H locs ls hf hR hl
    rw [fX11_proof_41] at hf
    refine lv_iload_n hx hb dX11_proof_41 rfl (lv_at hl 3 rfl) ?_
    refine lv_aload_n hx hb dX11_proof_42 rfl (lv_at hl 0 rfl) ?_
    refine x_get hx hb hown hts hK hR kX11 (z_47 b) (j := 27) (by decide) fl_X11_288 (v := .int (M.1 47 27)) rfl dX11_proof_43 ?_
    refine lv_icmp_ge (tgt := 106) hx hb dX11_proof_46 (by decide) (fun q46 => ?_) (fun q46 => ?_)
    · have hf := (br_if hf).1 q46
      exact hk106 hf hR (lv_sub hl [0, 1, 2] rfl)
    · have hf := (br_if hf).2 q46
      refine lv_iload_n hx hb dX11_proof_49 rfl (lv_at hl 3 rfl) ?_
      refine lv_iconst (v := 1) hx hb dX11_proof_50 (by decide) ?_
      refine lv_iadd hx hb dX11_proof_51 ?_
      refine lv_topi (fun v52 e52 => ?_)
      have hf := nx_at e52 hf
      refine lv_istore (lv' := [(4, .int v52), (0, .ref (eB E + 47)), (1, .int x1), (2, .int x2), (3, .int x3)]) hx hb dX11_proof_52 hl (by decide) rfl (fun ls hl => ?_)
      exact wX11_proof_54 X (fun hf hR hl => hk74 hf hR hl) (fun hf hR hl => wX11_proof_100 X (fun hf hR hl => ih hf hR hl) (fun hf hR hl => hk74 hf hR hl) (fun hf hR hl => hk106 hf hR hl) hf hR hl) FU hf hR (lv_sub hl [1, 2, 3, 4, 0] rfl)
set_option maxHeartbeats 4000000 in
set_option maxRecDepth 100000 in
theorem wX11_proof_106 {r : Int32} {M1 : Mem} {k29 : Int32 → Int32 → Mem → Option (Int32 × Mem)} {k74 : Int32 → Int32 → Int32 → Int32 → Mem → Option (Int32 × Mem)} {k112 : Mem → Option (Int32 × Mem)} (X : CX E p s m args c meth cX11_proof 5 (some .int) RX11) (hk29 : ∀ {x1 : Int32} {x2 : Int32} {M : Mem} {H : Heap} {locs : List Loc} {ls : Array Slot}, k29 x1 x2 M = some (r, M1) → Rl E (sh_ b) (nn b) s.heap M H locs → lv_has ls 5 [(0, .ref (eB E + 47)), (1, .int x1), (2, .int x2)] → W p l e (rm 7 0 0) s m args below meth c H locs 0 0 (MQ below (qq E (some (.int r)) (sh_ b) (nn b) M1) args s 0 0 (fr E)) (F0 m 29 ls [])) (hk74 : ∀ {x1 : Int32} {x2 : Int32} {x3 : Int32} {x4 : Int32} {M : Mem} {H : Heap} {locs : List Loc} {ls : Array Slot}, k74 x1 x2 x3 x4 M = some (r, M1) → Rl E (sh_ b) (nn b) s.heap M H locs → lv_has ls 5 [(1, .int x1), (2, .int x2), (3, .int x3), (4, .int x4)] → W p l e (rm 7 0 0) s m args below meth c H locs 0 0 (MQ below (qq E (some (.int r)) (sh_ b) (nn b) M1) args s 0 0 (fr E)) (F0 m 74 ls [])) (hk112 : ∀ {M : Mem} {H : Heap} {locs : List Loc} {ls : Array Slot}, k112 M = some (r, M1) → Rl E (sh_ b) (nn b) s.heap M H locs → lv_has ls 5 [] → W p l e (rm 7 0 0) s m args below meth c H locs 0 0 (MQ below (qq E (some (.int r)) (sh_ b) (nn b) M1) args s 0 0 (fr E)) (F0 m 112 ls [])) : ∀ {x1 : Int32} {x2 : Int32} {M : Mem} {H : Heap} {locs : List Loc} {ls : Array Slot}, fX11_proof_106 k29 k74 k112 x1 x2 M = some (r, M1) → Rl E (sh_ b) (nn b) s.heap M H locs → lv_has ls 5 [(0, .ref (eB E + 47)), (1, .int x1), (2, .int x2)] → W p l e (rm 7 0 0) s m args below meth c H locs 0 0 (MQ below (qq E (some (.int r)) (sh_ b) (nn b) M1) args s 0 0 (fr E)) (F0 m 106 ls []) := by
  obtain ⟨hx, hb, hr, hml, hown, hts, hK, hN, hO, hlk, hbs⟩ := id X
  intro x1 x2 M H locs ls hf hR hl
  unfold fX11_proof_106 at hf
  obtain ⟨v106, e106⟩ : ∃ y : Int32, y = (x2 + (1 : Int32)) := ⟨_, rfl⟩
  have hf := nx_at e106 hf
  refine lv_iinc (v := v106) (lv' := [(2, .int v106), (0, .ref (eB E + 47)), (1, .int x1)]) hx hb dX11_proof_106 hl (k := 2) rfl (by rw [e106]; rfl) (by decide) rfl (fun ls hl => ?_)
  refine lv_goto (tgt := 29) hx hb dX11_proof_109 (by decide) ?_
  exact hk29 hf hR (lv_sub hl [1, 2, 0] rfl)
set_option maxHeartbeats 4000000 in
set_option maxRecDepth 100000 in
theorem wX11_proof_29 {r : Int32} {M1 : Mem} {k74 : Int32 → Int32 → Int32 → Int32 → Mem → Option (Int32 × Mem)} {k112 : Mem → Option (Int32 × Mem)} (X : CX E p s m args c meth cX11_proof 5 (some .int) RX11) (hk74 : ∀ {x1 : Int32} {x2 : Int32} {x3 : Int32} {x4 : Int32} {M : Mem} {H : Heap} {locs : List Loc} {ls : Array Slot}, k74 x1 x2 x3 x4 M = some (r, M1) → Rl E (sh_ b) (nn b) s.heap M H locs → lv_has ls 5 [(1, .int x1), (2, .int x2), (3, .int x3), (4, .int x4)] → W p l e (rm 7 0 0) s m args below meth c H locs 0 0 (MQ below (qq E (some (.int r)) (sh_ b) (nn b) M1) args s 0 0 (fr E)) (F0 m 74 ls [])) (hk112 : ∀ {M : Mem} {H : Heap} {locs : List Loc} {ls : Array Slot}, k112 M = some (r, M1) → Rl E (sh_ b) (nn b) s.heap M H locs → lv_has ls 5 [] → W p l e (rm 7 0 0) s m args below meth c H locs 0 0 (MQ below (qq E (some (.int r)) (sh_ b) (nn b) M1) args s 0 0 (fr E)) (F0 m 112 ls [])) : ∀ (n : Nat) {x1 : Int32} {x2 : Int32} {M : Mem} {H : Heap} {locs : List Loc} {ls : Array Slot}, fX11_proof_29 k74 k112 n x1 x2 M = some (r, M1) → Rl E (sh_ b) (nn b) s.heap M H locs → lv_has ls 5 [(0, .ref (eB E + 47)), (1, .int x1), (2, .int x2)] → W p l e (rm 7 0 0) s m args below meth c H locs 0 0 (MQ below (qq E (some (.int r)) (sh_ b) (nn b) M1) args s 0 0 (fr E)) (F0 m 29 ls []) := by
  obtain ⟨hx, hb, hr, hml, hown, hts, hK, hN, hO, hlk, hbs⟩ := id X
  intro n
  induction n with
  | zero =>
    intro x1 x2 M H locs ls hf hR hl
    exact absurd (show none = some _ from hf) (fun h => by cases h)
  | succ n ih =>
    intro x1 x2 M H locs ls hf hR hl
    rw [fX11_proof_29] at hf
    refine lv_iload_n hx hb dX11_proof_29 rfl (lv_at hl 2 rfl) ?_
    refine lv_aload_n hx hb dX11_proof_30 rfl (lv_at hl 0 rfl) ?_
    refine x_get hx hb hown hts hK hR kX11 (z_47 b) (j := 27) (by decide) fl_X11_288 (v := .int (M.1 47 27)) rfl dX11_proof_31 ?_
    refine lv_icmp_ge (tgt := 112) hx hb dX11_proof_34 (by decide) (fun q34 => ?_) (fun q34 => ?_)
    · have hf := (br_if hf).1 q34
      exact hk112 hf hR (lv_sub hl [] rfl)
    · have hf := (br_if hf).2 q34
      refine lv_iload_n hx hb dX11_proof_37 rfl (lv_at hl 2 rfl) ?_
      refine lv_iconst (v := 1) hx hb dX11_proof_38 (by decide) ?_
      refine lv_iadd hx hb dX11_proof_39 ?_
      refine lv_topi (fun v40 e40 => ?_)
      have hf := nx_at e40 hf
      refine lv_istore_n (lv' := [(3, .int v40), (0, .ref (eB E + 47)), (1, .int x1), (2, .int x2)]) hx hb dX11_proof_40 rfl hl (by decide) rfl (fun ls hl => ?_)
      exact wX11_proof_41 X (fun hf hR hl => hk74 hf hR hl) (fun hf hR hl => wX11_proof_106 X (fun hf hR hl => ih hf hR hl) (fun hf hR hl => hk74 hf hR hl) (fun hf hR hl => hk112 hf hR hl) hf hR hl) FU hf hR (lv_sub hl [1, 2, 3, 0] rfl)
set_option maxHeartbeats 4000000 in
set_option maxRecDepth 100000 in
theorem wX11_proof_93 {r : Int32} {M1 : Mem} (X : CX E p s m args c meth cX11_proof 5 (some .int) RX11) : ∀ {s0 : Int32} {M : Mem} {H : Heap} {locs : List Loc} {ls : Array Slot}, fX11_proof_93 s0 M = some (r, M1) → Rl E (sh_ b) (nn b) s.heap M H locs → lv_has ls 5 [] → W p l e (rm 7 0 0) s m args below meth c H locs 0 0 (MQ below (qq E (some (.int r)) (sh_ b) (nn b) M1) args s 0 0 (fr E)) (F0 m 93 ls [.int s0]) := by
  obtain ⟨hx, hb, hr, hml, hown, hts, hK, hN, hO, hlk, hbs⟩ := id X
  intro s0 M H locs ls hf hR hl
  unfold fX11_proof_93 at hf
  cases hf
  exact x_iret hx hb hr hlk hR dX11_proof_93
set_option maxHeartbeats 4000000 in
set_option maxRecDepth 100000 in
theorem wX11_proof_74 {r : Int32} {M1 : Mem} (X : CX E p s m args c meth cX11_proof 5 (some .int) RX11) : ∀ {x1 : Int32} {x2 : Int32} {x3 : Int32} {x4 : Int32} {M : Mem} {H : Heap} {locs : List Loc} {ls : Array Slot}, fX11_proof_74 x1 x2 x3 x4 M = some (r, M1) → Rl E (sh_ b) (nn b) s.heap M H locs → lv_has ls 5 [(1, .int x1), (2, .int x2), (3, .int x3), (4, .int x4)] → W p l e (rm 7 0 0) s m args below meth c H locs 0 0 (MQ below (qq E (some (.int r)) (sh_ b) (nn b) M1) args s 0 0 (fr E)) (F0 m 74 ls []) := by
  obtain ⟨hx, hb, hr, hml, hown, hts, hK, hN, hO, hlk, hbs⟩ := id X
  intro x1 x2 x3 x4 M H locs ls hf hR hl
  unfold fX11_proof_74 at hf
  refine lv_iload_n hx hb dX11_proof_74 rfl (lv_at hl 0 rfl) ?_
  refine lv_if_ne (tgt := 82) hx hb dX11_proof_75 (by decide) (fun q75 => ?_) (fun q75 => ?_)
  · have hf := (br_if hf).2 q75
    refine lv_iload_n hx hb dX11_proof_82 rfl (lv_at hl 0 rfl) ?_
    refine lv_iconst (v := 1) hx hb dX11_proof_83 (by decide) ?_
    refine lv_icmp_ne (tgt := 91) hx hb dX11_proof_84 (by decide) (fun q84 => ?_) (fun q84 => ?_)
    · have hf := (br_if hf).2 q84
      refine lv_iload hx hb dX11_proof_91 (lv_at hl 3 rfl) ?_
      exact wX11_proof_93 X hf hR (lv_sub hl [] rfl)
    · have hf := (br_if hf).1 q84
      refine lv_iload_n hx hb dX11_proof_87 rfl (lv_at hl 2 rfl) ?_
      refine lv_goto (tgt := 93) hx hb dX11_proof_88 (by decide) ?_
      exact wX11_proof_93 X hf hR (lv_sub hl [] rfl)
  · have hf := (br_if hf).1 q75
    refine lv_iload_n hx hb dX11_proof_78 rfl (lv_at hl 1 rfl) ?_
    refine lv_goto (tgt := 93) hx hb dX11_proof_79 (by decide) ?_
    exact wX11_proof_93 X hf hR (lv_sub hl [] rfl)
set_option maxHeartbeats 4000000 in
set_option maxRecDepth 100000 in
theorem wX11_proof_112 {r : Int32} {M1 : Mem} (X : CX E p s m args c meth cX11_proof 5 (some .int) RX11) : ∀ {M : Mem} {H : Heap} {locs : List Loc} {ls : Array Slot}, fX11_proof_112 M = some (r, M1) → Rl E (sh_ b) (nn b) s.heap M H locs → lv_has ls 5 [] → W p l e (rm 7 0 0) s m args below meth c H locs 0 0 (MQ below (qq E (some (.int r)) (sh_ b) (nn b) M1) args s 0 0 (fr E)) (F0 m 112 ls []) := by
  obtain ⟨hx, hb, hr, hml, hown, hts, hK, hN, hO, hlk, hbs⟩ := id X
  intro M H locs ls hf hR hl
  unfold fX11_proof_112 at hf
  refine lv_iconst (v := -1) hx hb dX11_proof_112 (by decide) ?_
  cases hf
  exact x_iret hx hb hr hlk hR dX11_proof_113
set_option maxHeartbeats 4000000 in
set_option maxRecDepth 100000 in
theorem wX11_proof_0 {r : Int32} {M1 : Mem} (X : CX E p s m args c meth cX11_proof 5 (some .int) RX11) : ∀ {x1 : Int32} {M : Mem} {H : Heap} {locs : List Loc} {ls : Array Slot}, fX11_proof x1 M = some (r, M1) → Rl E (sh_ b) (nn b) s.heap M H locs → lv_has ls 5 [(0, .ref (eB E + 47)), (1, .int x1)] → W p l e (rm 7 0 0) s m args below meth c H locs 0 0 (MQ below (qq E (some (.int r)) (sh_ b) (nn b) M1) args s 0 0 (fr E)) (F0 m 0 ls []) := by
  obtain ⟨hx, hb, hr, hml, hown, hts, hK, hN, hO, hlk, hbs⟩ := id X
  intro x1 M H locs ls hf hR hl
  unfold fX11_proof at hf
  refine lv_iload_n hx hb dX11_proof_0 rfl (lv_at hl 1 rfl) ?_
  refine lv_i2l (v := x1.toInt64) hx hb dX11_proof_1 rfl ?_
  refine lv_lconst (v := 0) hx hb dX11_proof_2 (by decide) ?_
  refine lv_ldc2 hx hb hown (hts _ kl_X11_331) dX11_proof_3 ?_
  obtain ⟨q6, c6, hf⟩ := br_b hf
  refine x_callS (As := [.long x1.toInt64, .long (0 : Int64), .long (2 : Int64)]) (rest := []) (st1 := [.int q6]) X hR (ctX11_in c6) ml_X11_122 st_X11_in in_X11 co_X11_in yo_X11_in (rm_ok (by decide) (by decide)) rfl hl.1 rfl rfl (Nat.le_of_ble_eq_true rfl) dX11_proof_6 ⟨Nat.zero_le _, Nat.zero_le _⟩ (fun H locs hR => ?_)
  refine lv_if_ne (tgt := 14) hx hb dX11_proof_9 (by decide) (fun q9 => ?_) (fun q9 => ?_)
  · have hf := (br_if hf).2 q9
    refine lv_aload_n hx hb dX11_proof_14 rfl (lv_at hl 0 rfl) ?_
    obtain ⟨q15, c15, hf⟩ := br_b hf
    refine x_callV (k := 47) (As := []) (rest := []) (st1 := []) X hR (ctX11_knows c15) ml_X11_313 im_X11_knows se_X11_knows in_X11 co_X11_knows yo_X11_knows rfl kX11 (z_47 b) (rm_ok (by decide) (by decide)) rfl hl.1 rfl rfl (Nat.le_of_ble_eq_true rfl) dX11_proof_15 ⟨Nat.zero_le _, Nat.zero_le _⟩ (fun H locs hR => ?_)
    refine lv_aload_n hx hb dX11_proof_18 rfl (lv_at hl 0 rfl) ?_
    refine x_get hx hb hown hts hK hR kX11 (z_47 b) (j := 28) (by decide) fl_X11_317 (v := .int (q15.1 47 28)) rfl dX11_proof_19 ?_
    refine lv_if_le (tgt := 27) hx hb dX11_proof_22 (by decide) (fun q22 => ?_) (fun q22 => ?_)
    · have hf := (br_if hf).1 q22
      refine lv_iconst (v := 0) hx hb dX11_proof_27 (by decide) ?_
      refine lv_istore_n (lv' := [(2, .int (0 : Int32)), (0, .ref (eB E + 47)), (1, .int x1)]) hx hb dX11_proof_28 rfl hl (by decide) rfl (fun ls hl => ?_)
      exact wX11_proof_29 X (fun hf hR hl => wX11_proof_74 X hf hR hl) (fun hf hR hl => wX11_proof_112 X hf hR hl) FU hf hR (lv_sub hl [1, 2, 0] rfl)
    · have hf := (br_if hf).2 q22
      refine lv_iconst (v := -1) hx hb dX11_proof_25 (by decide) ?_
      cases hf
      exact x_iret hx hb hr hlk hR dX11_proof_26
  · have hf := (br_if hf).1 q9
    refine lv_iconst (v := -1) hx hb dX11_proof_12 (by decide) ?_
    cases hf
    exact x_iret hx hb hr hlk hR dX11_proof_13
theorem ctX11_proof {l : Launch} {E : Ge} {b : Bool} {M : Mem} {x1 : Int32} {r : Int32} {M1 : Mem} (h : fX11_proof x1 M = some (r, M1)) : CT l E yX11_proof cX11_proof 5 (some .int) 7 0 0 [.ref (eB E + 47), .int x1] (some (.int r)) (sh_ b) (nn b) M (sh_ b) (nn b) M1 := by
  refine met_of (by decide) (Nat.le_of_ble_eq_true rfl) ?_
  intro p e s m args below meth c X _ hR ls hl
  exact wX11_proof_0 X h hR hl
def fX11_propose_24 (M : Mem) : Option (Int32 × Mem) := some ((-1 : Int32), M)
def fX11_propose (x1 : Int32) (x2 : Int32) (M : Mem) : Option (Int32 × Mem) := (fX11_voters M).bind (fun q1 => (if q1 = 0 then fX11_propose_24 M else (fX11_isPoint M x1 x2).bind (fun q9 => (if q9 = 0 then fX11_propose_24 M else (fX11_places M).bind (fun q16 => (if q16 = (20 : Int32) then fX11_propose_24 M else (fX11_places M).bind (fun q33 => (if inb q33 20 = true then nx (sI M 68 (ix q33) x1) (fun M37 => (fX11_places M37).bind (fun q45 => (if inb q45 20 = true then nx (sI M37 71 (ix q45) x2) (fun M49 => nx (sI M49 74 (ix (0 : Int32)) ((M49.1 74 (ix (0 : Int32))) + (1 : Int32))) (fun M59 => (fX11_places M59).bind (fun q61 => some ((q61 - (1 : Int32)), M59)))) else none))) else none))))))))
set_option maxHeartbeats 4000000 in
set_option maxRecDepth 100000 in
theorem wX11_propose_24 {r : Int32} {M1 : Mem} (X : CX E p s m args c meth cX11_propose 3 (some .int) RX11) : ∀ {M : Mem} {H : Heap} {locs : List Loc} {ls : Array Slot}, fX11_propose_24 M = some (r, M1) → Rl E (sh_ b) (nn b) s.heap M H locs → lv_has ls 3 [] → W p l e (rm 3 0 0) s m args below meth c H locs 0 0 (MQ below (qq E (some (.int r)) (sh_ b) (nn b) M1) args s 0 0 (fr E)) (F0 m 24 ls []) := by
  obtain ⟨hx, hb, hr, hml, hown, hts, hK, hN, hO, hlk, hbs⟩ := id X
  intro M H locs ls hf hR hl
  unfold fX11_propose_24 at hf
  refine lv_iconst (v := -1) hx hb dX11_propose_24 (by decide) ?_
  cases hf
  exact x_iret hx hb hr hlk hR dX11_propose_25
set_option maxHeartbeats 4000000 in
set_option maxRecDepth 100000 in
theorem wX11_propose_0 {r : Int32} {M1 : Mem} (X : CX E p s m args c meth cX11_propose 3 (some .int) RX11) : ∀ {x1 : Int32} {x2 : Int32} {M : Mem} {H : Heap} {locs : List Loc} {ls : Array Slot}, fX11_propose x1 x2 M = some (r, M1) → Rl E (sh_ b) (nn b) s.heap M H locs → lv_has ls 3 [(0, .ref (eB E + 47)), (1, .int x1), (2, .int x2)] → W p l e (rm 3 0 0) s m args below meth c H locs 0 0 (MQ below (qq E (some (.int r)) (sh_ b) (nn b) M1) args s 0 0 (fr E)) (F0 m 0 ls []) := by
  obtain ⟨hx, hb, hr, hml, hown, hts, hK, hN, hO, hlk, hbs⟩ := id X
  intro x1 x2 M H locs ls hf hR hl
  unfold fX11_propose at hf
  refine lv_aload_n hx hb dX11_propose_0 rfl (lv_at hl 0 rfl) ?_
  obtain ⟨q1, c1, hf⟩ := br_b hf
  refine x_callV (k := 47) (As := []) (rest := []) (st1 := [.int q1]) X hR (ctX11_voters c1) ml_X11_237 im_X11_voters se_X11_voters in_X11 co_X11_voters yo_X11_voters rfl kX11 (z_47 b) (rm_ok (by decide) (by decide)) rfl hl.1 rfl rfl (Nat.le_of_ble_eq_true rfl) dX11_propose_1 ⟨Nat.zero_le _, Nat.zero_le _⟩ (fun H locs hR => ?_)
  refine lv_if_eq (tgt := 24) hx hb dX11_propose_4 (by decide) (fun q4 => ?_) (fun q4 => ?_)
  · have hf := (br_if hf).1 q4
    exact wX11_propose_24 X hf hR (lv_sub hl [] rfl)
  · have hf := (br_if hf).2 q4
    refine lv_iload_n hx hb dX11_propose_7 rfl (lv_at hl 1 rfl) ?_
    refine lv_iload_n hx hb dX11_propose_8 rfl (lv_at hl 2 rfl) ?_
    obtain ⟨q9, c9, hf⟩ := br_b hf
    refine x_callS (As := [.int x1, .int x2]) (rest := []) (st1 := [.int q9]) X hR (ctX11_isPoint c9) ml_X11_251 st_X11_isPoint in_X11 co_X11_isPoint yo_X11_isPoint (rm_ok (by decide) (by decide)) rfl hl.1 rfl rfl (Nat.le_of_ble_eq_true rfl) dX11_propose_9 ⟨Nat.zero_le _, Nat.zero_le _⟩ (fun H locs hR => ?_)
    refine lv_if_eq (tgt := 24) hx hb dX11_propose_12 (by decide) (fun q12 => ?_) (fun q12 => ?_)
    · have hf := (br_if hf).1 q12
      exact wX11_propose_24 X hf hR (lv_sub hl [] rfl)
    · have hf := (br_if hf).2 q12
      refine lv_aload_n hx hb dX11_propose_15 rfl (lv_at hl 0 rfl) ?_
      obtain ⟨q16, c16, hf⟩ := br_b hf
      refine x_callV (k := 47) (As := []) (rest := []) (st1 := [.int q16]) X hR (ctX11_places c16) ml_X11_242 im_X11_places se_X11_places in_X11 co_X11_places yo_X11_places rfl kX11 (z_47 b) (rm_ok (by decide) (by decide)) rfl hl.1 rfl rfl (Nat.le_of_ble_eq_true rfl) dX11_propose_16 ⟨Nat.zero_le _, Nat.zero_le _⟩ (fun H locs hR => ?_)
      refine lv_bipush (v := 20) hx hb dX11_propose_19 (by decide) ?_
      refine lv_icmp_ne (tgt := 26) hx hb dX11_propose_21 (by decide) (fun q21 => ?_) (fun q21 => ?_)
      · have hf := (br_if hf).2 q21
        refine lv_aload_n hx hb dX11_propose_26 rfl (lv_at hl 0 rfl) ?_
        refine x_get hx hb hown hts hK hR kX11 (z_47 b) (j := 12) (by decide) fl_X11_33 (v := .ref (eB E + 67)) rfl dX11_propose_27 ?_
        refine lv_iconst (v := 0) hx hb dX11_propose_30 (by decide) ?_
        refine x_aald5 hx hb hK hR (z_67 b) (by decide) (r := 68) rfl dX11_propose_31 ?_
        refine lv_aload_n hx hb dX11_propose_32 rfl (lv_at hl 0 rfl) ?_
        obtain ⟨q33, c33, hf⟩ := br_b hf
        refine x_callV (k := 47) (As := []) (rest := [.ref (eB E + 68)]) (st1 := [.int q33, .ref (eB E + 68)]) X hR (ctX11_places c33) ml_X11_242 im_X11_places se_X11_places in_X11 co_X11_places yo_X11_places rfl kX11 (z_47 b) (rm_ok (by decide) (by decide)) rfl hl.1 rfl rfl (Nat.le_of_ble_eq_true rfl) dX11_propose_33 ⟨Nat.zero_le _, Nat.zero_le _⟩ (fun H locs hR => ?_)
        refine lv_iload_n hx hb dX11_propose_36 rfl (lv_at hl 1 rfl) ?_
        obtain ⟨g37, hf⟩ := br_g hf
        refine x_iast hx hb hK hR (z_68 b) g37 dX11_propose_37 (fun H locs hR => ?_)
        obtain ⟨M37, e37⟩ : ∃ y : Mem, y = (sI M 68 (ix q33) x1) := ⟨_, rfl⟩
        have hf := nx_at e37 hf
        have hR : Rl E (sh_ b) (nn b) s.heap M37 H locs := by rw [e37]; exact hR
        refine lv_aload_n hx hb dX11_propose_38 rfl (lv_at hl 0 rfl) ?_
        refine x_get hx hb hown hts hK hR kX11 (z_47 b) (j := 13) (by decide) fl_X11_36 (v := .ref (eB E + 70)) rfl dX11_propose_39 ?_
        refine lv_iconst (v := 0) hx hb dX11_propose_42 (by decide) ?_
        refine x_aald5 hx hb hK hR (z_70 b) (by decide) (r := 71) rfl dX11_propose_43 ?_
        refine lv_aload_n hx hb dX11_propose_44 rfl (lv_at hl 0 rfl) ?_
        obtain ⟨q45, c45, hf⟩ := br_b hf
        refine x_callV (k := 47) (As := []) (rest := [.ref (eB E + 71)]) (st1 := [.int q45, .ref (eB E + 71)]) X hR (ctX11_places c45) ml_X11_242 im_X11_places se_X11_places in_X11 co_X11_places yo_X11_places rfl kX11 (z_47 b) (rm_ok (by decide) (by decide)) rfl hl.1 rfl rfl (Nat.le_of_ble_eq_true rfl) dX11_propose_45 ⟨Nat.zero_le _, Nat.zero_le _⟩ (fun H locs hR => ?_)
        refine lv_iload_n hx hb dX11_propose_48 rfl (lv_at hl 2 rfl) ?_
        obtain ⟨g49, hf⟩ := br_g hf
        refine x_iast hx hb hK hR (z_71 b) g49 dX11_propose_49 (fun H locs hR => ?_)
        obtain ⟨M49, e49⟩ : ∃ y : Mem, y = (sI M37 71 (ix q45) x2) := ⟨_, rfl⟩
        have hf := nx_at e49 hf
        have hR : Rl E (sh_ b) (nn b) s.heap M49 H locs := by rw [e49]; exact hR
        refine lv_aload_n hx hb dX11_propose_50 rfl (lv_at hl 0 rfl) ?_
        refine x_get hx hb hown hts hK hR kX11 (z_47 b) (j := 15) (by decide) fl_X11_43 (v := .ref (eB E + 74)) rfl dX11_propose_51 ?_
        refine lv_iconst (v := 0) hx hb dX11_propose_54 (by decide) ?_
        refine lv_dup2_11 hx hb dX11_propose_55 rfl rfl ?_
        refine x_iald hx hb hK hR (z_74 b) (by decide) dX11_propose_56 ?_
        refine lv_iconst (v := 1) hx hb dX11_propose_57 (by decide) ?_
        refine lv_iadd hx hb dX11_propose_58 ?_
        refine x_iast hx hb hK hR (z_74 b) (by decide) dX11_propose_59 (fun H locs hR => ?_)
        obtain ⟨M59, e59⟩ : ∃ y : Mem, y = (sI M49 74 (ix (0 : Int32)) ((M49.1 74 (ix (0 : Int32))) + (1 : Int32))) := ⟨_, rfl⟩
        have hf := nx_at e59 hf
        have hR : Rl E (sh_ b) (nn b) s.heap M59 H locs := by rw [e59]; exact hR
        refine lv_aload_n hx hb dX11_propose_60 rfl (lv_at hl 0 rfl) ?_
        obtain ⟨q61, c61, hf⟩ := br_b hf
        refine x_callV (k := 47) (As := []) (rest := []) (st1 := [.int q61]) X hR (ctX11_places c61) ml_X11_242 im_X11_places se_X11_places in_X11 co_X11_places yo_X11_places rfl kX11 (z_47 b) (rm_ok (by decide) (by decide)) rfl hl.1 rfl rfl (Nat.le_of_ble_eq_true rfl) dX11_propose_61 ⟨Nat.zero_le _, Nat.zero_le _⟩ (fun H locs hR => ?_)
        refine lv_iconst (v := 1) hx hb dX11_propose_64 (by decide) ?_
        refine lv_isub hx hb dX11_propose_65 ?_
        cases hf
        exact x_iret hx hb hr hlk hR dX11_propose_66
      · have hf := (br_if hf).1 q21
        exact wX11_propose_24 X hf hR (lv_sub hl [] rfl)
theorem ctX11_propose {l : Launch} {E : Ge} {b : Bool} {M : Mem} {x1 : Int32} {x2 : Int32} {r : Int32} {M1 : Mem} (h : fX11_propose x1 x2 M = some (r, M1)) : CT l E yX11_propose cX11_propose 3 (some .int) 3 0 0 [.ref (eB E + 47), .int x1, .int x2] (some (.int r)) (sh_ b) (nn b) M (sh_ b) (nn b) M1 := by
  refine met_of (by decide) (Nat.le_of_ble_eq_true rfl) ?_
  intro p e s m args below meth c X _ hR ls hl
  exact wX11_propose_0 X h hR hl
def fX11_rest_40 (M : Mem) (k14 : Int32 → Int32 → Int32 → Option Int32) (k47 : Int32 → Int32 → Option Int32) (x1 : Int32) (x3 : Int32) (s0 : Int32) : Option Int32 := nx (x3 + (1 : Int32)) (fun v41 => k14 x1 s0 v41)
def fX11_rest_39 (M : Mem) (k14 : Int32 → Int32 → Int32 → Option Int32) (k47 : Int32 → Int32 → Option Int32) (x1 : Int32) (x3 : Int32) : Option Int32 := fX11_rest_40 M k14 k47 x1 x3 (0 : Int32)
def fX11_rest_14 (M : Mem) (k47 : Int32 → Int32 → Option Int32) : Nat → Int32 → Int32 → Int32 → Option Int32
  | 0, _, _, _ => none
  | n + 1, x1, x2, x3 => (fX11_chosen M).bind (fun q16 => (if q16 ≤ x3 then k47 x1 x2 else (if x2 = 0 then fX11_rest_39 M (fX11_rest_14 M k47 n) k47 x1 x3 else (fX11_gain M x3 x1).bind (fun q29 => (if 0 < q29 then fX11_rest_39 M (fX11_rest_14 M k47 n) k47 x1 x3 else fX11_rest_40 M (fX11_rest_14 M k47 n) k47 x1 x3 (1 : Int32))))))
def fX11_rest_47 (M : Mem) (k2 : Int32 → Option Int32) (k51 : Int32 → Option Int32) (k59 : Option Int32) (x1 : Int32) (x2 : Int32) : Option Int32 := (if x2 = 0 then nx (x1 + (1 : Int32)) (fun v53 => k2 v53) else k51 x1)
def fX11_rest_2 (M : Mem) (k51 : Int32 → Option Int32) (k59 : Option Int32) : Nat → Int32 → Option Int32
  | 0, _ => none
  | n + 1, x1 => (fX11_chosen M).bind (fun q4 => (if q4 ≤ x1 then k59 else fX11_rest_14 M (fX11_rest_47 M (fX11_rest_2 M k51 k59 n) k51 k59) FU x1 (1 : Int32) (0 : Int32)))
def fX11_rest_51 (M : Mem) (x1 : Int32) : Option Int32 := some x1
def fX11_rest_59 (M : Mem) : Option Int32 := some (-1 : Int32)
def fX11_rest (M : Mem) : Option Int32 := fX11_rest_2 M (fX11_rest_51 M) (fX11_rest_59 M) FU (0 : Int32)
set_option maxHeartbeats 4000000 in
set_option maxRecDepth 100000 in
theorem wX11_rest_40 {r : Int32} {M : Mem} {k14 : Int32 → Int32 → Int32 → Option Int32} {k47 : Int32 → Int32 → Option Int32} (X : CX E p s m args c meth cX11_rest 4 (some .int) RX11) (hk14 : ∀ {x1 : Int32} {x2 : Int32} {x3 : Int32} {H : Heap} {locs : List Loc} {ls : Array Slot}, k14 x1 x2 x3 = some r → Rl E (sh_ b) (nn b) s.heap M H locs → lv_has ls 4 [(0, .ref (eB E + 47)), (1, .int x1), (2, .int x2), (3, .int x3)] → W p l e (rm 7 0 0) s m args below meth c H locs 0 0 (MQ below (qq E (some (.int r)) (sh_ b) (nn b) M) args s 0 0 (fr E)) (F0 m 14 ls [])) (hk47 : ∀ {x1 : Int32} {x2 : Int32} {H : Heap} {locs : List Loc} {ls : Array Slot}, k47 x1 x2 = some r → Rl E (sh_ b) (nn b) s.heap M H locs → lv_has ls 4 [(0, .ref (eB E + 47)), (1, .int x1), (2, .int x2)] → W p l e (rm 7 0 0) s m args below meth c H locs 0 0 (MQ below (qq E (some (.int r)) (sh_ b) (nn b) M) args s 0 0 (fr E)) (F0 m 47 ls [])) : ∀ {x1 : Int32} {x3 : Int32} {s0 : Int32} {H : Heap} {locs : List Loc} {ls : Array Slot}, fX11_rest_40 M k14 k47 x1 x3 s0 = some r → Rl E (sh_ b) (nn b) s.heap M H locs → lv_has ls 4 [(0, .ref (eB E + 47)), (1, .int x1), (3, .int x3)] → W p l e (rm 7 0 0) s m args below meth c H locs 0 0 (MQ below (qq E (some (.int r)) (sh_ b) (nn b) M) args s 0 0 (fr E)) (F0 m 40 ls [.int s0]) := by
  obtain ⟨hx, hb, hr, hml, hown, hts, hK, hN, hO, hlk, hbs⟩ := id X
  intro x1 x3 s0 H locs ls hf hR hl
  unfold fX11_rest_40 at hf
  refine lv_istore_n (lv' := [(2, .int s0), (0, .ref (eB E + 47)), (1, .int x1), (3, .int x3)]) hx hb dX11_rest_40 rfl hl (by decide) rfl (fun ls hl => ?_)
  obtain ⟨v41, e41⟩ : ∃ y : Int32, y = (x3 + (1 : Int32)) := ⟨_, rfl⟩
  have hf := nx_at e41 hf
  refine lv_iinc (v := v41) (lv' := [(3, .int v41), (2, .int s0), (0, .ref (eB E + 47)), (1, .int x1)]) hx hb dX11_rest_41 hl (k := 3) rfl (by rw [e41]; rfl) (by decide) rfl (fun ls hl => ?_)
  refine lv_goto (tgt := 14) hx hb dX11_rest_44 (by decide) ?_
  exact hk14 hf hR (lv_sub hl [2, 3, 1, 0] rfl)
set_option maxHeartbeats 4000000 in
set_option maxRecDepth 100000 in
theorem wX11_rest_39 {r : Int32} {M : Mem} {k14 : Int32 → Int32 → Int32 → Option Int32} {k47 : Int32 → Int32 → Option Int32} (X : CX E p s m args c meth cX11_rest 4 (some .int) RX11) (hk14 : ∀ {x1 : Int32} {x2 : Int32} {x3 : Int32} {H : Heap} {locs : List Loc} {ls : Array Slot}, k14 x1 x2 x3 = some r → Rl E (sh_ b) (nn b) s.heap M H locs → lv_has ls 4 [(0, .ref (eB E + 47)), (1, .int x1), (2, .int x2), (3, .int x3)] → W p l e (rm 7 0 0) s m args below meth c H locs 0 0 (MQ below (qq E (some (.int r)) (sh_ b) (nn b) M) args s 0 0 (fr E)) (F0 m 14 ls [])) (hk47 : ∀ {x1 : Int32} {x2 : Int32} {H : Heap} {locs : List Loc} {ls : Array Slot}, k47 x1 x2 = some r → Rl E (sh_ b) (nn b) s.heap M H locs → lv_has ls 4 [(0, .ref (eB E + 47)), (1, .int x1), (2, .int x2)] → W p l e (rm 7 0 0) s m args below meth c H locs 0 0 (MQ below (qq E (some (.int r)) (sh_ b) (nn b) M) args s 0 0 (fr E)) (F0 m 47 ls [])) : ∀ {x1 : Int32} {x3 : Int32} {H : Heap} {locs : List Loc} {ls : Array Slot}, fX11_rest_39 M k14 k47 x1 x3 = some r → Rl E (sh_ b) (nn b) s.heap M H locs → lv_has ls 4 [(0, .ref (eB E + 47)), (1, .int x1), (3, .int x3)] → W p l e (rm 7 0 0) s m args below meth c H locs 0 0 (MQ below (qq E (some (.int r)) (sh_ b) (nn b) M) args s 0 0 (fr E)) (F0 m 39 ls []) := by
  obtain ⟨hx, hb, hr, hml, hown, hts, hK, hN, hO, hlk, hbs⟩ := id X
  intro x1 x3 H locs ls hf hR hl
  unfold fX11_rest_39 at hf
  refine lv_iconst (v := 0) hx hb dX11_rest_39 (by decide) ?_
  exact wX11_rest_40 X (fun hf hR hl => hk14 hf hR hl) (fun hf hR hl => hk47 hf hR hl) hf hR hl
set_option maxHeartbeats 4000000 in
set_option maxRecDepth 100000 in
theorem wX11_rest_14 {r : Int32} {M : Mem} {k47 : Int32 → Int32 → Option Int32} (X : CX E p s m args c meth cX11_rest 4 (some .int) RX11) (hk47 : ∀ {x1 : Int32} {x2 : Int32} {H : Heap} {locs : List Loc} {ls : Array Slot}, k47 x1 x2 = some r → Rl E (sh_ b) (nn b) s.heap M H locs → lv_has ls 4 [(0, .ref (eB E + 47)), (1, .int x1), (2, .int x2)] → W p l e (rm 7 0 0) s m args below meth c H locs 0 0 (MQ below (qq E (some (.int r)) (sh_ b) (nn b) M) args s 0 0 (fr E)) (F0 m 47 ls [])) : ∀ (n : Nat) {x1 : Int32} {x2 : Int32} {x3 : Int32} {H : Heap} {locs : List Loc} {ls : Array Slot}, fX11_rest_14 M k47 n x1 x2 x3 = some r → Rl E (sh_ b) (nn b) s.heap M H locs → lv_has ls 4 [(0, .ref (eB E + 47)), (1, .int x1), (2, .int x2), (3, .int x3)] → W p l e (rm 7 0 0) s m args below meth c H locs 0 0 (MQ below (qq E (some (.int r)) (sh_ b) (nn b) M) args s 0 0 (fr E)) (F0 m 14 ls []) := by
  obtain ⟨hx, hb, hr, hml, hown, hts, hK, hN, hO, hlk, hbs⟩ := id X
  intro n
  induction n with
  | zero =>
    intro x1 x2 x3 H locs ls hf hR hl
    exact absurd (show none = some _ from hf) (fun h => by cases h)
  | succ n ih =>
    intro x1 x2 x3 H locs ls hf hR hl
    rw [fX11_rest_14] at hf
    refine lv_iload_n hx hb dX11_rest_14 rfl (lv_at hl 3 rfl) ?_
    refine lv_aload_n hx hb dX11_rest_15 rfl (lv_at hl 0 rfl) ?_
    obtain ⟨q16, c16, hf⟩ := br_b hf
    refine x_callV (k := 47) (As := []) (rest := [.int x3]) (st1 := [.int q16, .int x3]) X hR (ctX11_chosen c16) ml_X11_372 im_X11_chosen se_X11_chosen in_X11 co_X11_chosen yo_X11_chosen rfl kX11 (z_47 b) (rm_ok (by decide) (by decide)) rfl hl.1 rfl rfl (Nat.le_of_ble_eq_true rfl) dX11_rest_16 ⟨Nat.zero_le _, Nat.zero_le _⟩ (fun H locs hR => ?_)
    refine lv_icmp_ge (tgt := 47) hx hb dX11_rest_19 (by decide) (fun q19 => ?_) (fun q19 => ?_)
    · have hf := (br_if hf).1 q19
      exact hk47 hf hR (lv_sub hl [0, 1, 2] rfl)
    · have hf := (br_if hf).2 q19
      refine lv_iload_n hx hb dX11_rest_22 rfl (lv_at hl 2 rfl) ?_
      refine lv_if_eq (tgt := 39) hx hb dX11_rest_23 (by decide) (fun q23 => ?_) (fun q23 => ?_)
      · have hf := (br_if hf).1 q23
        exact wX11_rest_39 X (fun hf hR hl => ih hf hR hl) (fun hf hR hl => hk47 hf hR hl) hf hR (lv_sub hl [0, 1, 3] rfl)
      · have hf := (br_if hf).2 q23
        refine lv_aload_n hx hb dX11_rest_26 rfl (lv_at hl 0 rfl) ?_
        refine lv_iload_n hx hb dX11_rest_27 rfl (lv_at hl 3 rfl) ?_
        refine lv_iload_n hx hb dX11_rest_28 rfl (lv_at hl 1 rfl) ?_
        obtain ⟨q29, c29, hf⟩ := br_b hf
        refine x_callV (k := 47) (As := [.int x3, .int x1]) (rest := []) (st1 := [.int q29]) X hR (ctX11_gain c29) ml_X11_375 im_X11_gain se_X11_gain in_X11 co_X11_gain yo_X11_gain rfl kX11 (z_47 b) (rm_ok (by decide) (by decide)) rfl hl.1 rfl rfl (Nat.le_of_ble_eq_true rfl) dX11_rest_29 ⟨Nat.zero_le _, Nat.zero_le _⟩ (fun H locs hR => ?_)
        refine lv_if_gt (tgt := 39) hx hb dX11_rest_32 (by decide) (fun q32 => ?_) (fun q32 => ?_)
        · have hf := (br_if hf).1 q32
          exact wX11_rest_39 X (fun hf hR hl => ih hf hR hl) (fun hf hR hl => hk47 hf hR hl) hf hR (lv_sub hl [0, 1, 3] rfl)
        · have hf := (br_if hf).2 q32
          refine lv_iconst (v := 1) hx hb dX11_rest_35 (by decide) ?_
          refine lv_goto (tgt := 40) hx hb dX11_rest_36 (by decide) ?_
          exact wX11_rest_40 X (fun hf hR hl => ih hf hR hl) (fun hf hR hl => hk47 hf hR hl) hf hR (lv_sub hl [0, 1, 3] rfl)
set_option maxHeartbeats 4000000 in
set_option maxRecDepth 100000 in
theorem wX11_rest_47 {r : Int32} {M : Mem} {k2 : Int32 → Option Int32} {k51 : Int32 → Option Int32} {k59 : Option Int32} (X : CX E p s m args c meth cX11_rest 4 (some .int) RX11) (hk2 : ∀ {x1 : Int32} {H : Heap} {locs : List Loc} {ls : Array Slot}, k2 x1 = some r → Rl E (sh_ b) (nn b) s.heap M H locs → lv_has ls 4 [(0, .ref (eB E + 47)), (1, .int x1)] → W p l e (rm 7 0 0) s m args below meth c H locs 0 0 (MQ below (qq E (some (.int r)) (sh_ b) (nn b) M) args s 0 0 (fr E)) (F0 m 2 ls [])) (hk51 : ∀ {x1 : Int32} {H : Heap} {locs : List Loc} {ls : Array Slot}, k51 x1 = some r → Rl E (sh_ b) (nn b) s.heap M H locs → lv_has ls 4 [(1, .int x1)] → W p l e (rm 7 0 0) s m args below meth c H locs 0 0 (MQ below (qq E (some (.int r)) (sh_ b) (nn b) M) args s 0 0 (fr E)) (F0 m 51 ls [])) (hk59 : ∀ {H : Heap} {locs : List Loc} {ls : Array Slot}, k59 = some r → Rl E (sh_ b) (nn b) s.heap M H locs → lv_has ls 4 [] → W p l e (rm 7 0 0) s m args below meth c H locs 0 0 (MQ below (qq E (some (.int r)) (sh_ b) (nn b) M) args s 0 0 (fr E)) (F0 m 59 ls [])) : ∀ {x1 : Int32} {x2 : Int32} {H : Heap} {locs : List Loc} {ls : Array Slot}, fX11_rest_47 M k2 k51 k59 x1 x2 = some r → Rl E (sh_ b) (nn b) s.heap M H locs → lv_has ls 4 [(0, .ref (eB E + 47)), (1, .int x1), (2, .int x2)] → W p l e (rm 7 0 0) s m args below meth c H locs 0 0 (MQ below (qq E (some (.int r)) (sh_ b) (nn b) M) args s 0 0 (fr E)) (F0 m 47 ls []) := by
  obtain ⟨hx, hb, hr, hml, hown, hts, hK, hN, hO, hlk, hbs⟩ := id X
  intro x1 x2 H locs ls hf hR hl
  unfold fX11_rest_47 at hf
  refine lv_iload_n hx hb dX11_rest_47 rfl (lv_at hl 2 rfl) ?_
  refine lv_if_eq (tgt := 53) hx hb dX11_rest_48 (by decide) (fun q48 => ?_) (fun q48 => ?_)
  · have hf := (br_if hf).1 q48
    obtain ⟨v53, e53⟩ : ∃ y : Int32, y = (x1 + (1 : Int32)) := ⟨_, rfl⟩
    have hf := nx_at e53 hf
    refine lv_iinc (v := v53) (lv' := [(1, .int v53), (0, .ref (eB E + 47)), (2, .int x2)]) hx hb dX11_rest_53 hl (k := 1) rfl (by rw [e53]; rfl) (by decide) rfl (fun ls hl => ?_)
    refine lv_goto (tgt := 2) hx hb dX11_rest_56 (by decide) ?_
    exact hk2 hf hR (lv_sub hl [1, 0] rfl)
  · have hf := (br_if hf).2 q48
    exact hk51 hf hR (lv_sub hl [1] rfl)
set_option maxHeartbeats 4000000 in
set_option maxRecDepth 100000 in
theorem wX11_rest_2 {r : Int32} {M : Mem} {k51 : Int32 → Option Int32} {k59 : Option Int32} (X : CX E p s m args c meth cX11_rest 4 (some .int) RX11) (hk51 : ∀ {x1 : Int32} {H : Heap} {locs : List Loc} {ls : Array Slot}, k51 x1 = some r → Rl E (sh_ b) (nn b) s.heap M H locs → lv_has ls 4 [(1, .int x1)] → W p l e (rm 7 0 0) s m args below meth c H locs 0 0 (MQ below (qq E (some (.int r)) (sh_ b) (nn b) M) args s 0 0 (fr E)) (F0 m 51 ls [])) (hk59 : ∀ {H : Heap} {locs : List Loc} {ls : Array Slot}, k59 = some r → Rl E (sh_ b) (nn b) s.heap M H locs → lv_has ls 4 [] → W p l e (rm 7 0 0) s m args below meth c H locs 0 0 (MQ below (qq E (some (.int r)) (sh_ b) (nn b) M) args s 0 0 (fr E)) (F0 m 59 ls [])) : ∀ (n : Nat) {x1 : Int32} {H : Heap} {locs : List Loc} {ls : Array Slot}, fX11_rest_2 M k51 k59 n x1 = some r → Rl E (sh_ b) (nn b) s.heap M H locs → lv_has ls 4 [(0, .ref (eB E + 47)), (1, .int x1)] → W p l e (rm 7 0 0) s m args below meth c H locs 0 0 (MQ below (qq E (some (.int r)) (sh_ b) (nn b) M) args s 0 0 (fr E)) (F0 m 2 ls []) := by
  obtain ⟨hx, hb, hr, hml, hown, hts, hK, hN, hO, hlk, hbs⟩ := id X
  intro n
  induction n with
  | zero =>
    intro x1 H locs ls hf hR hl
    exact absurd (show none = some _ from hf) (fun h => by cases h)
  | succ n ih =>
    intro x1 H locs ls hf hR hl
    rw [fX11_rest_2] at hf
    refine lv_iload_n hx hb dX11_rest_2 rfl (lv_at hl 1 rfl) ?_
    refine lv_aload_n hx hb dX11_rest_3 rfl (lv_at hl 0 rfl) ?_
    obtain ⟨q4, c4, hf⟩ := br_b hf
    refine x_callV (k := 47) (As := []) (rest := [.int x1]) (st1 := [.int q4, .int x1]) X hR (ctX11_chosen c4) ml_X11_372 im_X11_chosen se_X11_chosen in_X11 co_X11_chosen yo_X11_chosen rfl kX11 (z_47 b) (rm_ok (by decide) (by decide)) rfl hl.1 rfl rfl (Nat.le_of_ble_eq_true rfl) dX11_rest_4 ⟨Nat.zero_le _, Nat.zero_le _⟩ (fun H locs hR => ?_)
    refine lv_icmp_ge (tgt := 59) hx hb dX11_rest_7 (by decide) (fun q7 => ?_) (fun q7 => ?_)
    · have hf := (br_if hf).1 q7
      exact hk59 hf hR (lv_sub hl [] rfl)
    · have hf := (br_if hf).2 q7
      refine lv_iconst (v := 1) hx hb dX11_rest_10 (by decide) ?_
      refine lv_istore_n (lv' := [(2, .int (1 : Int32)), (0, .ref (eB E + 47)), (1, .int x1)]) hx hb dX11_rest_11 rfl hl (by decide) rfl (fun ls hl => ?_)
      refine lv_iconst (v := 0) hx hb dX11_rest_12 (by decide) ?_
      refine lv_istore_n (lv' := [(3, .int (0 : Int32)), (2, .int (1 : Int32)), (0, .ref (eB E + 47)), (1, .int x1)]) hx hb dX11_rest_13 rfl hl (by decide) rfl (fun ls hl => ?_)
      exact wX11_rest_14 X (fun hf hR hl => wX11_rest_47 X (fun hf hR hl => ih hf hR hl) (fun hf hR hl => hk51 hf hR hl) (fun hf hR hl => hk59 hf hR hl) hf hR hl) FU hf hR (lv_sub hl [2, 3, 1, 0] rfl)
set_option maxHeartbeats 4000000 in
set_option maxRecDepth 100000 in
theorem wX11_rest_51 {r : Int32} {M : Mem} (X : CX E p s m args c meth cX11_rest 4 (some .int) RX11) : ∀ {x1 : Int32} {H : Heap} {locs : List Loc} {ls : Array Slot}, fX11_rest_51 M x1 = some r → Rl E (sh_ b) (nn b) s.heap M H locs → lv_has ls 4 [(1, .int x1)] → W p l e (rm 7 0 0) s m args below meth c H locs 0 0 (MQ below (qq E (some (.int r)) (sh_ b) (nn b) M) args s 0 0 (fr E)) (F0 m 51 ls []) := by
  obtain ⟨hx, hb, hr, hml, hown, hts, hK, hN, hO, hlk, hbs⟩ := id X
  intro x1 H locs ls hf hR hl
  unfold fX11_rest_51 at hf
  refine lv_iload_n hx hb dX11_rest_51 rfl (lv_at hl 0 rfl) ?_
  cases hf
  exact x_iret hx hb hr hlk hR dX11_rest_52
set_option maxHeartbeats 4000000 in
set_option maxRecDepth 100000 in
theorem wX11_rest_59 {r : Int32} {M : Mem} (X : CX E p s m args c meth cX11_rest 4 (some .int) RX11) : ∀ {H : Heap} {locs : List Loc} {ls : Array Slot}, fX11_rest_59 M = some r → Rl E (sh_ b) (nn b) s.heap M H locs → lv_has ls 4 [] → W p l e (rm 7 0 0) s m args below meth c H locs 0 0 (MQ below (qq E (some (.int r)) (sh_ b) (nn b) M) args s 0 0 (fr E)) (F0 m 59 ls []) := by
  obtain ⟨hx, hb, hr, hml, hown, hts, hK, hN, hO, hlk, hbs⟩ := id X
  intro H locs ls hf hR hl
  unfold fX11_rest_59 at hf
  refine lv_iconst (v := -1) hx hb dX11_rest_59 (by decide) ?_
  cases hf
  exact x_iret hx hb hr hlk hR dX11_rest_60
set_option maxHeartbeats 4000000 in
set_option maxRecDepth 100000 in
theorem wX11_rest_0 {r : Int32} {M : Mem} (X : CX E p s m args c meth cX11_rest 4 (some .int) RX11) : ∀ {H : Heap} {locs : List Loc} {ls : Array Slot}, fX11_rest M = some r → Rl E (sh_ b) (nn b) s.heap M H locs → lv_has ls 4 [(0, .ref (eB E + 47))] → W p l e (rm 7 0 0) s m args below meth c H locs 0 0 (MQ below (qq E (some (.int r)) (sh_ b) (nn b) M) args s 0 0 (fr E)) (F0 m 0 ls []) := by
  obtain ⟨hx, hb, hr, hml, hown, hts, hK, hN, hO, hlk, hbs⟩ := id X
  intro H locs ls hf hR hl
  unfold fX11_rest at hf
  refine lv_iconst (v := 0) hx hb dX11_rest_0 (by decide) ?_
  refine lv_istore_n (lv' := [(1, .int (0 : Int32)), (0, .ref (eB E + 47))]) hx hb dX11_rest_1 rfl hl (by decide) rfl (fun ls hl => ?_)
  exact wX11_rest_2 X (fun hf hR hl => wX11_rest_51 X hf hR hl) (fun hf hR hl => wX11_rest_59 X hf hR hl) FU hf hR (lv_sub hl [1, 0] rfl)
theorem ctX11_rest {l : Launch} {E : Ge} {b : Bool} {M : Mem} {r : Int32} (h : fX11_rest M = some r) : CT l E yX11_rest cX11_rest 4 (some .int) 7 0 0 [.ref (eB E + 47)] (some (.int r)) (sh_ b) (nn b) M (sh_ b) (nn b) M := by
  refine met_of (by decide) (Nat.le_of_ble_eq_true rfl) ?_
  intro p e s m args below meth c X _ hR ls hl
  exact wX11_rest_0 X h hR hl
def fX11_round_19 (M : Mem) : Option (Int32 × Mem) := some ((-1 : Int32), M)
def fX11_round_103 (k47 : Int32 → Int32 → Int64 → Int64 → Int32 → Mem → Option (Int32 × Mem)) (k109 : Int32 → Int32 → Int64 → Int64 → Mem → Option (Int32 × Mem)) (x1 : Int32) (x2 : Int32) (y3 : Int64) (y5 : Int64) (x7 : Int32) (M : Mem) : Option (Int32 × Mem) := nx (x7 + (1 : Int32)) (fun v103 => k47 x1 x2 y3 y5 v103 M)
def fX11_round_47 (k109 : Int32 → Int32 → Int64 → Int64 → Mem → Option (Int32 × Mem)) : Nat → Int32 → Int32 → Int64 → Int64 → Int32 → Mem → Option (Int32 × Mem)
  | 0, _, _, _, _, _, _ => none
  | n + 1, x1, x2, y3, y5, x7, M => (if (10000 : Int32) ≤ x7 then k109 x1 x2 y3 y5 M else (fX11_far (x7 / (100 : Int32)) (irm x7 (100 : Int32)) M).bind (fun q66 => (if (lg_cmp ((q66.2 47 33) * y5) (y3 * (q66.2 47 34))) < 0 then nx (q66.2 47 33) (fun v96 => nx (q66.2 47 34) (fun v101 => fX11_round_103 (fX11_round_47 k109 n) k109 x1 x7 v96 v101 x7 q66)) else fX11_round_103 (fX11_round_47 k109 n) k109 x1 x2 y3 y5 x7 q66)))
def fX11_round_155 (s0 : Int32) (M : Mem) : Option (Int32 × Mem) := some (s0, M)
def fX11_round_151 (y7 : Int64) (t0 : Int64) (M : Mem) : Option (Int32 × Mem) := (if ¬ y7 = 0 then fX11_round_155 ((t0 / y7).toInt32) M else none)
def fX11_round_109 (x1 : Int32) (x2 : Int32) (y3 : Int64) (y5 : Int64) (M : Mem) : Option (Int32 × Mem) := (fX11_gcd M y3 y5).bind (fun q112 => (if x1 = 0 then fX11_round_155 ((x2 / (100 : Int32))) M else (if x1 = (1 : Int32) then fX11_round_155 ((irm x2 (100 : Int32))) M else (if x1 = (2 : Int32) then fX11_round_151 q112 y3 M else fX11_round_151 q112 y5 M))))
def fX11_round (x1 : Int32) (M : Mem) : Option (Int32 × Mem) := (fX11_voters M).bind (fun q1 => (if q1 = 0 then fX11_round_19 M else (fX11_in M (x1.toInt64) (0 : Int64) (3 : Int64)).bind (fun q13 => (if q13 = 0 then fX11_round_19 M else (fX11_knows M).bind (fun q22 => (fX11_far (0 : Int32) (0 : Int32) q22).bind (fun q30 => nx (q30.2 47 33) (fun v37 => nx (q30.2 47 34) (fun v42 => fX11_round_47 fX11_round_109 FU x1 (0 : Int32) v37 v42 (1 : Int32) q30))))))))
set_option maxHeartbeats 4000000 in
set_option maxRecDepth 100000 in
theorem wX11_round_19 {r : Int32} {M1 : Mem} (X : CX E p s m args c meth cX11_round 9 (some .int) RX11) : ∀ {M : Mem} {H : Heap} {locs : List Loc} {ls : Array Slot}, fX11_round_19 M = some (r, M1) → Rl E (sh_ b) (nn b) s.heap M H locs → lv_has ls 9 [] → W p l e (rm 7 0 0) s m args below meth c H locs 0 0 (MQ below (qq E (some (.int r)) (sh_ b) (nn b) M1) args s 0 0 (fr E)) (F0 m 19 ls []) := by
  obtain ⟨hx, hb, hr, hml, hown, hts, hK, hN, hO, hlk, hbs⟩ := id X
  intro M H locs ls hf hR hl
  unfold fX11_round_19 at hf
  refine lv_iconst (v := -1) hx hb dX11_round_19 (by decide) ?_
  cases hf
  exact x_iret hx hb hr hlk hR dX11_round_20
set_option maxHeartbeats 4000000 in
set_option maxRecDepth 100000 in
theorem wX11_round_103 {r : Int32} {M1 : Mem} {k47 : Int32 → Int32 → Int64 → Int64 → Int32 → Mem → Option (Int32 × Mem)} {k109 : Int32 → Int32 → Int64 → Int64 → Mem → Option (Int32 × Mem)} (X : CX E p s m args c meth cX11_round 9 (some .int) RX11) (hk47 : ∀ {x1 : Int32} {x2 : Int32} {y3 : Int64} {y5 : Int64} {x7 : Int32} {M : Mem} {H : Heap} {locs : List Loc} {ls : Array Slot}, k47 x1 x2 y3 y5 x7 M = some (r, M1) → Rl E (sh_ b) (nn b) s.heap M H locs → lv_has ls 9 [(0, .ref (eB E + 47)), (1, .int x1), (2, .int x2), (3, .long y3), (5, .long y5), (7, .int x7)] → W p l e (rm 7 0 0) s m args below meth c H locs 0 0 (MQ below (qq E (some (.int r)) (sh_ b) (nn b) M1) args s 0 0 (fr E)) (F0 m 47 ls [])) (hk109 : ∀ {x1 : Int32} {x2 : Int32} {y3 : Int64} {y5 : Int64} {M : Mem} {H : Heap} {locs : List Loc} {ls : Array Slot}, k109 x1 x2 y3 y5 M = some (r, M1) → Rl E (sh_ b) (nn b) s.heap M H locs → lv_has ls 9 [(1, .int x1), (2, .int x2), (3, .long y3), (5, .long y5)] → W p l e (rm 7 0 0) s m args below meth c H locs 0 0 (MQ below (qq E (some (.int r)) (sh_ b) (nn b) M1) args s 0 0 (fr E)) (F0 m 109 ls [])) : ∀ {x1 : Int32} {x2 : Int32} {y3 : Int64} {y5 : Int64} {x7 : Int32} {M : Mem} {H : Heap} {locs : List Loc} {ls : Array Slot}, fX11_round_103 k47 k109 x1 x2 y3 y5 x7 M = some (r, M1) → Rl E (sh_ b) (nn b) s.heap M H locs → lv_has ls 9 [(0, .ref (eB E + 47)), (1, .int x1), (2, .int x2), (3, .long y3), (5, .long y5), (7, .int x7)] → W p l e (rm 7 0 0) s m args below meth c H locs 0 0 (MQ below (qq E (some (.int r)) (sh_ b) (nn b) M1) args s 0 0 (fr E)) (F0 m 103 ls []) := by
  obtain ⟨hx, hb, hr, hml, hown, hts, hK, hN, hO, hlk, hbs⟩ := id X
  intro x1 x2 y3 y5 x7 M H locs ls hf hR hl
  unfold fX11_round_103 at hf
  obtain ⟨v103, e103⟩ : ∃ y : Int32, y = (x7 + (1 : Int32)) := ⟨_, rfl⟩
  have hf := nx_at e103 hf
  refine lv_iinc (v := v103) (lv' := [(7, .int v103), (0, .ref (eB E + 47)), (1, .int x1), (2, .int x2), (3, .long y3), (5, .long y5)]) hx hb dX11_round_103 hl (k := 5) rfl (by rw [e103]; rfl) (by decide) rfl (fun ls hl => ?_)
  refine lv_goto (tgt := 47) hx hb dX11_round_106 (by decide) ?_
  exact hk47 hf hR (lv_sub hl [1, 2, 3, 4, 5, 0] rfl)
set_option maxHeartbeats 4000000 in
set_option maxRecDepth 100000 in
theorem wX11_round_47 {r : Int32} {M1 : Mem} {k109 : Int32 → Int32 → Int64 → Int64 → Mem → Option (Int32 × Mem)} (X : CX E p s m args c meth cX11_round 9 (some .int) RX11) (hk109 : ∀ {x1 : Int32} {x2 : Int32} {y3 : Int64} {y5 : Int64} {M : Mem} {H : Heap} {locs : List Loc} {ls : Array Slot}, k109 x1 x2 y3 y5 M = some (r, M1) → Rl E (sh_ b) (nn b) s.heap M H locs → lv_has ls 9 [(1, .int x1), (2, .int x2), (3, .long y3), (5, .long y5)] → W p l e (rm 7 0 0) s m args below meth c H locs 0 0 (MQ below (qq E (some (.int r)) (sh_ b) (nn b) M1) args s 0 0 (fr E)) (F0 m 109 ls [])) : ∀ (n : Nat) {x1 : Int32} {x2 : Int32} {y3 : Int64} {y5 : Int64} {x7 : Int32} {M : Mem} {H : Heap} {locs : List Loc} {ls : Array Slot}, fX11_round_47 k109 n x1 x2 y3 y5 x7 M = some (r, M1) → Rl E (sh_ b) (nn b) s.heap M H locs → lv_has ls 9 [(0, .ref (eB E + 47)), (1, .int x1), (2, .int x2), (3, .long y3), (5, .long y5), (7, .int x7)] → W p l e (rm 7 0 0) s m args below meth c H locs 0 0 (MQ below (qq E (some (.int r)) (sh_ b) (nn b) M1) args s 0 0 (fr E)) (F0 m 47 ls []) := by
  obtain ⟨hx, hb, hr, hml, hown, hts, hK, hN, hO, hlk, hbs⟩ := id X
  intro n
  induction n with
  | zero =>
    intro x1 x2 y3 y5 x7 M H locs ls hf hR hl
    exact absurd (show none = some _ from hf) (fun h => by cases h)
  | succ n ih =>
    intro x1 x2 y3 y5 x7 M H locs ls hf hR hl
    rw [fX11_round_47] at hf
    refine lv_iload hx hb dX11_round_47 (lv_at hl 5 rfl) ?_
    refine lv_sipush (v := 10000) hx hb dX11_round_49 (by decide) ?_
    refine lv_icmp_ge (tgt := 109) hx hb dX11_round_52 (by decide) (fun q52 => ?_) (fun q52 => ?_)
    · have hf := (br_if hf).1 q52
      exact hk109 hf hR (lv_sub hl [1, 2, 3, 4] rfl)
    · have hf := (br_if hf).2 q52
      refine lv_aload_n hx hb dX11_round_55 rfl (lv_at hl 0 rfl) ?_
      refine lv_iload hx hb dX11_round_56 (lv_at hl 5 rfl) ?_
      refine lv_bipush (v := 100) hx hb dX11_round_58 (by decide) ?_
      refine lv_idiv hx hb dX11_round_60 (by decide) ?_
      refine lv_iload hx hb dX11_round_61 (lv_at hl 5 rfl) ?_
      refine lv_bipush (v := 100) hx hb dX11_round_63 (by decide) ?_
      refine lv_irem hx hb dX11_round_65 (by decide) ?_
      refine W.eq (g2 := F0 m 66 ls [.int (irm x7 (100 : Int32)), .int (x7 / (100 : Int32)), .ref (eB E + 47)]) rfl ?_
      obtain ⟨q66, c66, hf⟩ := br_b hf
      refine x_callV (k := 47) (As := [.int (x7 / (100 : Int32)), .int (irm x7 (100 : Int32))]) (rest := []) (st1 := []) X hR (ctX11_far c66) ml_X11_345 im_X11_far se_X11_far in_X11 co_X11_far yo_X11_far rfl kX11 (z_47 b) (rm_ok (by decide) (by decide)) rfl hl.1 rfl rfl (Nat.le_of_ble_eq_true rfl) dX11_round_66 ⟨Nat.zero_le _, Nat.zero_le _⟩ (fun H locs hR => ?_)
      refine lv_aload_n hx hb dX11_round_69 rfl (lv_at hl 0 rfl) ?_
      refine x_get hx hb hown hts hK hR kX11 (z_47 b) (j := 33) (by decide) fl_X11_336 (v := .long (q66.2 47 33)) rfl dX11_round_70 ?_
      refine lv_lload hx hb dX11_round_73 (lv_at hl 4 rfl) ?_
      refine lv_lmul hx hb dX11_round_75 ?_
      refine lv_lload_n hx hb dX11_round_76 rfl (lv_at hl 3 rfl) ?_
      refine lv_aload_n hx hb dX11_round_77 rfl (lv_at hl 0 rfl) ?_
      refine x_get hx hb hown hts hK hR kX11 (z_47 b) (j := 34) (by decide) fl_X11_340 (v := .long (q66.2 47 34)) rfl dX11_round_78 ?_
      refine lv_lmul hx hb dX11_round_81 ?_
      refine W.lcmp hx hb dX11_round_82 ?_
      refine lv_if_lt (tgt := 89) hx hb dX11_round_83 (by decide) (fun q83 => ?_) (fun q83 => ?_)
      · have hf := (br_if hf).1 q83
        refine lv_iload hx hb dX11_round_89 (lv_at hl 5 rfl) ?_
        refine lv_istore_n (lv' := [(2, .int x7), (0, .ref (eB E + 47)), (1, .int x1), (3, .long y3), (5, .long y5), (7, .int x7)]) hx hb dX11_round_91 rfl hl (by decide) rfl (fun ls hl => ?_)
        refine lv_aload_n hx hb dX11_round_92 rfl (lv_at hl 1 rfl) ?_
        refine x_get hx hb hown hts hK hR kX11 (z_47 b) (j := 33) (by decide) fl_X11_336 (v := .long (q66.2 47 33)) rfl dX11_round_93 ?_
        refine lv_topl (fun v96 e96 => ?_)
        have hf := nx_at e96 hf
        refine lv_lstore_n (lv' := [(3, .long v96), (2, .int x7), (0, .ref (eB E + 47)), (1, .int x1), (5, .long y5), (7, .int x7)]) hx hb dX11_round_96 rfl hl (by decide) rfl (fun ls hl => ?_)
        refine lv_aload_n hx hb dX11_round_97 rfl (lv_at hl 2 rfl) ?_
        refine x_get hx hb hown hts hK hR kX11 (z_47 b) (j := 34) (by decide) fl_X11_340 (v := .long (q66.2 47 34)) rfl dX11_round_98 ?_
        refine lv_topl (fun v101 e101 => ?_)
        have hf := nx_at e101 hf
        refine lv_lstore (lv' := [(5, .long v101), (3, .long v96), (2, .int x7), (0, .ref (eB E + 47)), (1, .int x1), (7, .int x7)]) hx hb dX11_round_101 hl (by decide) rfl (fun ls hl => ?_)
        exact wX11_round_103 X (fun hf hR hl => ih hf hR hl) (fun hf hR hl => hk109 hf hR hl) hf hR (lv_sub hl [3, 4, 2, 1, 0, 5] rfl)
      · have hf := (br_if hf).2 q83
        refine lv_goto (tgt := 103) hx hb dX11_round_86 (by decide) ?_
        exact wX11_round_103 X (fun hf hR hl => ih hf hR hl) (fun hf hR hl => hk109 hf hR hl) hf hR hl
set_option maxHeartbeats 4000000 in
set_option maxRecDepth 100000 in
theorem wX11_round_155 {r : Int32} {M1 : Mem} (X : CX E p s m args c meth cX11_round 9 (some .int) RX11) : ∀ {s0 : Int32} {M : Mem} {H : Heap} {locs : List Loc} {ls : Array Slot}, fX11_round_155 s0 M = some (r, M1) → Rl E (sh_ b) (nn b) s.heap M H locs → lv_has ls 9 [] → W p l e (rm 7 0 0) s m args below meth c H locs 0 0 (MQ below (qq E (some (.int r)) (sh_ b) (nn b) M1) args s 0 0 (fr E)) (F0 m 155 ls [.int s0]) := by
  obtain ⟨hx, hb, hr, hml, hown, hts, hK, hN, hO, hlk, hbs⟩ := id X
  intro s0 M H locs ls hf hR hl
  unfold fX11_round_155 at hf
  cases hf
  exact x_iret hx hb hr hlk hR dX11_round_155
set_option maxHeartbeats 4000000 in
set_option maxRecDepth 100000 in
theorem wX11_round_151 {r : Int32} {M1 : Mem} (X : CX E p s m args c meth cX11_round 9 (some .int) RX11) : ∀ {y7 : Int64} {t0 : Int64} {M : Mem} {H : Heap} {locs : List Loc} {ls : Array Slot}, fX11_round_151 y7 t0 M = some (r, M1) → Rl E (sh_ b) (nn b) s.heap M H locs → lv_has ls 9 [(7, .long y7)] → W p l e (rm 7 0 0) s m args below meth c H locs 0 0 (MQ below (qq E (some (.int r)) (sh_ b) (nn b) M1) args s 0 0 (fr E)) (F0 m 151 ls [.long t0]) := by
  obtain ⟨hx, hb, hr, hml, hown, hts, hK, hN, hO, hlk, hbs⟩ := id X
  intro y7 t0 M H locs ls hf hR hl
  unfold fX11_round_151 at hf
  refine lv_lload hx hb dX11_round_151 (lv_at hl 0 rfl) ?_
  obtain ⟨g153, hf⟩ := br_g hf
  refine lv_ldiv hx hb dX11_round_153 g153 ?_
  refine lv_l2i (v := (t0 / y7).toInt32) hx hb dX11_round_154 rfl ?_
  exact wX11_round_155 X hf hR (lv_sub hl [] rfl)
set_option maxHeartbeats 4000000 in
set_option maxRecDepth 100000 in
theorem wX11_round_109 {r : Int32} {M1 : Mem} (X : CX E p s m args c meth cX11_round 9 (some .int) RX11) : ∀ {x1 : Int32} {x2 : Int32} {y3 : Int64} {y5 : Int64} {M : Mem} {H : Heap} {locs : List Loc} {ls : Array Slot}, fX11_round_109 x1 x2 y3 y5 M = some (r, M1) → Rl E (sh_ b) (nn b) s.heap M H locs → lv_has ls 9 [(1, .int x1), (2, .int x2), (3, .long y3), (5, .long y5)] → W p l e (rm 7 0 0) s m args below meth c H locs 0 0 (MQ below (qq E (some (.int r)) (sh_ b) (nn b) M1) args s 0 0 (fr E)) (F0 m 109 ls []) := by
  obtain ⟨hx, hb, hr, hml, hown, hts, hK, hN, hO, hlk, hbs⟩ := id X
  intro x1 x2 y3 y5 M H locs ls hf hR hl
  unfold fX11_round_109 at hf
  refine lv_lload_n hx hb dX11_round_109 rfl (lv_at hl 2 rfl) ?_
  refine lv_lload hx hb dX11_round_110 (lv_at hl 3 rfl) ?_
  obtain ⟨q112, c112, hf⟩ := br_b hf
  refine x_callS (As := [.long y3, .long y5]) (rest := []) (st1 := [.long q112]) X hR (ctX11_gcd c112) ml_X11_294 st_X11_gcd in_X11 co_X11_gcd yo_X11_gcd (rm_ok (by decide) (by decide)) rfl hl.1 rfl rfl (Nat.le_of_ble_eq_true rfl) dX11_round_112 ⟨Nat.zero_le _, Nat.zero_le _⟩ (fun H locs hR => ?_)
  refine lv_lstore (lv' := [(7, .long q112), (1, .int x1), (2, .int x2), (3, .long y3), (5, .long y5)]) hx hb dX11_round_115 hl (by decide) rfl (fun ls hl => ?_)
  refine lv_iload_n hx hb dX11_round_117 rfl (lv_at hl 1 rfl) ?_
  refine lv_if_ne (tgt := 128) hx hb dX11_round_118 (by decide) (fun q118 => ?_) (fun q118 => ?_)
  · have hf := (br_if hf).2 q118
    refine lv_iload_n hx hb dX11_round_128 rfl (lv_at hl 1 rfl) ?_
    refine lv_iconst (v := 1) hx hb dX11_round_129 (by decide) ?_
    refine lv_icmp_ne (tgt := 140) hx hb dX11_round_130 (by decide) (fun q130 => ?_) (fun q130 => ?_)
    · have hf := (br_if hf).2 q130
      refine lv_iload_n hx hb dX11_round_140 rfl (lv_at hl 1 rfl) ?_
      refine lv_iconst (v := 2) hx hb dX11_round_141 (by decide) ?_
      refine lv_icmp_ne (tgt := 149) hx hb dX11_round_142 (by decide) (fun q142 => ?_) (fun q142 => ?_)
      · have hf := (br_if hf).2 q142
        refine lv_lload hx hb dX11_round_149 (lv_at hl 4 rfl) ?_
        exact wX11_round_151 X hf hR (lv_sub hl [0] rfl)
      · have hf := (br_if hf).1 q142
        refine lv_lload_n hx hb dX11_round_145 rfl (lv_at hl 3 rfl) ?_
        refine lv_goto (tgt := 151) hx hb dX11_round_146 (by decide) ?_
        exact wX11_round_151 X hf hR (lv_sub hl [0] rfl)
    · have hf := (br_if hf).1 q130
      refine lv_iload_n hx hb dX11_round_133 rfl (lv_at hl 2 rfl) ?_
      refine lv_bipush (v := 100) hx hb dX11_round_134 (by decide) ?_
      refine lv_irem hx hb dX11_round_136 (by decide) ?_
      refine W.eq (g2 := F0 m 137 ls [.int (irm x2 (100 : Int32))]) rfl ?_
      refine lv_goto (tgt := 155) hx hb dX11_round_137 (by decide) ?_
      exact wX11_round_155 X hf hR (lv_sub hl [] rfl)
  · have hf := (br_if hf).1 q118
    refine lv_iload_n hx hb dX11_round_121 rfl (lv_at hl 2 rfl) ?_
    refine lv_bipush (v := 100) hx hb dX11_round_122 (by decide) ?_
    refine lv_idiv hx hb dX11_round_124 (by decide) ?_
    refine lv_goto (tgt := 155) hx hb dX11_round_125 (by decide) ?_
    exact wX11_round_155 X hf hR (lv_sub hl [] rfl)
set_option maxHeartbeats 4000000 in
set_option maxRecDepth 100000 in
theorem wX11_round_0 {r : Int32} {M1 : Mem} (X : CX E p s m args c meth cX11_round 9 (some .int) RX11) : ∀ {x1 : Int32} {M : Mem} {H : Heap} {locs : List Loc} {ls : Array Slot}, fX11_round x1 M = some (r, M1) → Rl E (sh_ b) (nn b) s.heap M H locs → lv_has ls 9 [(0, .ref (eB E + 47)), (1, .int x1)] → W p l e (rm 7 0 0) s m args below meth c H locs 0 0 (MQ below (qq E (some (.int r)) (sh_ b) (nn b) M1) args s 0 0 (fr E)) (F0 m 0 ls []) := by
  obtain ⟨hx, hb, hr, hml, hown, hts, hK, hN, hO, hlk, hbs⟩ := id X
  intro x1 M H locs ls hf hR hl
  unfold fX11_round at hf
  refine lv_aload_n hx hb dX11_round_0 rfl (lv_at hl 0 rfl) ?_
  obtain ⟨q1, c1, hf⟩ := br_b hf
  refine x_callV (k := 47) (As := []) (rest := []) (st1 := [.int q1]) X hR (ctX11_voters c1) ml_X11_237 im_X11_voters se_X11_voters in_X11 co_X11_voters yo_X11_voters rfl kX11 (z_47 b) (rm_ok (by decide) (by decide)) rfl hl.1 rfl rfl (Nat.le_of_ble_eq_true rfl) dX11_round_1 ⟨Nat.zero_le _, Nat.zero_le _⟩ (fun H locs hR => ?_)
  refine lv_if_eq (tgt := 19) hx hb dX11_round_4 (by decide) (fun q4 => ?_) (fun q4 => ?_)
  · have hf := (br_if hf).1 q4
    exact wX11_round_19 X hf hR (lv_sub hl [] rfl)
  · have hf := (br_if hf).2 q4
    refine lv_iload_n hx hb dX11_round_7 rfl (lv_at hl 1 rfl) ?_
    refine lv_i2l (v := x1.toInt64) hx hb dX11_round_8 rfl ?_
    refine lv_lconst (v := 0) hx hb dX11_round_9 (by decide) ?_
    refine lv_ldc2 hx hb hown (hts _ kl_X11_343) dX11_round_10 ?_
    obtain ⟨q13, c13, hf⟩ := br_b hf
    refine x_callS (As := [.long x1.toInt64, .long (0 : Int64), .long (3 : Int64)]) (rest := []) (st1 := [.int q13]) X hR (ctX11_in c13) ml_X11_122 st_X11_in in_X11 co_X11_in yo_X11_in (rm_ok (by decide) (by decide)) rfl hl.1 rfl rfl (Nat.le_of_ble_eq_true rfl) dX11_round_13 ⟨Nat.zero_le _, Nat.zero_le _⟩ (fun H locs hR => ?_)
    refine lv_if_ne (tgt := 21) hx hb dX11_round_16 (by decide) (fun q16 => ?_) (fun q16 => ?_)
    · have hf := (br_if hf).2 q16
      refine lv_aload_n hx hb dX11_round_21 rfl (lv_at hl 0 rfl) ?_
      obtain ⟨q22, c22, hf⟩ := br_b hf
      refine x_callV (k := 47) (As := []) (rest := []) (st1 := []) X hR (ctX11_knows c22) ml_X11_313 im_X11_knows se_X11_knows in_X11 co_X11_knows yo_X11_knows rfl kX11 (z_47 b) (rm_ok (by decide) (by decide)) rfl hl.1 rfl rfl (Nat.le_of_ble_eq_true rfl) dX11_round_22 ⟨Nat.zero_le _, Nat.zero_le _⟩ (fun H locs hR => ?_)
      refine lv_iconst (v := 0) hx hb dX11_round_25 (by decide) ?_
      refine lv_istore_n (lv' := [(2, .int (0 : Int32)), (0, .ref (eB E + 47)), (1, .int x1)]) hx hb dX11_round_26 rfl hl (by decide) rfl (fun ls hl => ?_)
      refine lv_aload_n hx hb dX11_round_27 rfl (lv_at hl 1 rfl) ?_
      refine lv_iconst (v := 0) hx hb dX11_round_28 (by decide) ?_
      refine lv_iconst (v := 0) hx hb dX11_round_29 (by decide) ?_
      obtain ⟨q30, c30, hf⟩ := br_b hf
      refine x_callV (k := 47) (As := [.int (0 : Int32), .int (0 : Int32)]) (rest := []) (st1 := []) X hR (ctX11_far c30) ml_X11_345 im_X11_far se_X11_far in_X11 co_X11_far yo_X11_far rfl kX11 (z_47 b) (rm_ok (by decide) (by decide)) rfl hl.1 rfl rfl (Nat.le_of_ble_eq_true rfl) dX11_round_30 ⟨Nat.zero_le _, Nat.zero_le _⟩ (fun H locs hR => ?_)
      refine lv_aload_n hx hb dX11_round_33 rfl (lv_at hl 1 rfl) ?_
      refine x_get hx hb hown hts hK hR kX11 (z_47 b) (j := 33) (by decide) fl_X11_336 (v := .long (q30.2 47 33)) rfl dX11_round_34 ?_
      refine lv_topl (fun v37 e37 => ?_)
      have hf := nx_at e37 hf
      refine lv_lstore_n (lv' := [(3, .long v37), (2, .int (0 : Int32)), (0, .ref (eB E + 47)), (1, .int x1)]) hx hb dX11_round_37 rfl hl (by decide) rfl (fun ls hl => ?_)
      refine lv_aload_n hx hb dX11_round_38 rfl (lv_at hl 2 rfl) ?_
      refine x_get hx hb hown hts hK hR kX11 (z_47 b) (j := 34) (by decide) fl_X11_340 (v := .long (q30.2 47 34)) rfl dX11_round_39 ?_
      refine lv_topl (fun v42 e42 => ?_)
      have hf := nx_at e42 hf
      refine lv_lstore (lv' := [(5, .long v42), (3, .long v37), (2, .int (0 : Int32)), (0, .ref (eB E + 47)), (1, .int x1)]) hx hb dX11_round_42 hl (by decide) rfl (fun ls hl => ?_)
      refine lv_iconst (v := 1) hx hb dX11_round_44 (by decide) ?_
      refine lv_istore (lv' := [(7, .int (1 : Int32)), (5, .long v42), (3, .long v37), (2, .int (0 : Int32)), (0, .ref (eB E + 47)), (1, .int x1)]) hx hb dX11_round_45 hl (by decide) rfl (fun ls hl => ?_)
      exact wX11_round_47 X (fun hf hR hl => wX11_round_109 X hf hR hl) FU hf hR (lv_sub hl [4, 5, 3, 2, 1, 0] rfl)
    · have hf := (br_if hf).1 q16
      exact wX11_round_19 X hf hR (lv_sub hl [] rfl)
theorem ctX11_round {l : Launch} {E : Ge} {b : Bool} {M : Mem} {x1 : Int32} {r : Int32} {M1 : Mem} (h : fX11_round x1 M = some (r, M1)) : CT l E yX11_round cX11_round 9 (some .int) 7 0 0 [.ref (eB E + 47), .int x1] (some (.int r)) (sh_ b) (nn b) M (sh_ b) (nn b) M1 := by
  refine met_of (by decide) (Nat.le_of_ble_eq_true rfl) ?_
  intro p e s m args below meth c X _ hR ls hl
  exact wX11_round_0 X h hR hl
def fX11_sheet_76 (k184 : Mem → Option (Int32 × Mem)) : Nat → Int32 → Mem → Option (Int32 × Mem)
  | 0, _, _ => none
  | n + 1, x1, M => (if (15 : Int32) ≤ x1 then k184 M else (if inb x1 15 = true then (if inb x1 15 = true then nx (sI M 50 (ix x1) (M.1 51 (ix x1))) (fun M97 => (if inb x1 15 = true then (if inb x1 15 = true then nx (sI M97 53 (ix x1) (M97.1 54 (ix x1))) (fun M113 => (if inb x1 15 = true then (if inb x1 15 = true then nx (sI M113 56 (ix x1) (M113.1 57 (ix x1))) (fun M129 => (if inb x1 15 = true then (if inb x1 15 = true then nx (sI M129 59 (ix x1) (M129.1 60 (ix x1))) (fun M145 => (if inb x1 15 = true then (if inb x1 15 = true then nx (sI M145 62 (ix x1) (M145.1 63 (ix x1))) (fun M161 => (if inb x1 15 = true then (if inb x1 15 = true then nx (sI M161 65 (ix x1) (M161.1 66 (ix x1))) (fun M177 => nx (x1 + (1 : Int32)) (fun v178 => fX11_sheet_76 k184 n v178 M177)) else none) else none)) else none) else none)) else none) else none)) else none) else none)) else none) else none)) else none) else none))
def fX11_sheet_186 (k230 : Mem → Option (Int32 × Mem)) : Nat → Int32 → Mem → Option (Int32 × Mem)
  | 0, _, _ => none
  | n + 1, x1, M => (if (20 : Int32) ≤ x1 then k230 M else (if inb x1 20 = true then (if inb x1 20 = true then nx (sI M 68 (ix x1) (M.1 69 (ix x1))) (fun M207 => (if inb x1 20 = true then (if inb x1 20 = true then nx (sI M207 71 (ix x1) (M207.1 72 (ix x1))) (fun M223 => nx (x1 + (1 : Int32)) (fun v224 => fX11_sheet_186 k230 n v224 M223)) else none) else none)) else none) else none))
def fX11_sheet_230 (M : Mem) : Option (Int32 × Mem) := nx (sI M 47 1 (0 : Int32)) (fun M232 => nx (sI M232 47 48 (0 : Int32)) (fun M237 => nx (sI M237 47 29 (0 : Int32)) (fun M242 => (fX11_voters M242).bind (fun q246 => some (q246, M242)))))
def fX11_sheet_184 (M : Mem) : Option (Int32 × Mem) := fX11_sheet_186 fX11_sheet_230 FU (0 : Int32) M
def fX11_sheet (M : Mem) : Option (Int32 × Mem) := (fX11_reads M).bind (fun q1 => (if (q1.1 47 4) = (-1 : Int32) then nx (sI q1 73 (ix (0 : Int32)) (q1.1 73 (ix (1 : Int32)))) (fun M25 => nx (sI M25 74 (ix (0 : Int32)) (M25.1 74 (ix (1 : Int32)))) (fun M37 => nx (sI M37 75 (ix (0 : Int32)) (M37.1 75 (ix (1 : Int32)))) (fun M49 => nx (sI M49 76 (ix (0 : Int32)) (M49.1 76 (ix (1 : Int32)))) (fun M61 => nx (sI M61 77 (ix (0 : Int32)) (M61.1 77 (ix (1 : Int32)))) (fun M73 => fX11_sheet_76 fX11_sheet_184 FU (0 : Int32) M73))))) else some ((-1 : Int32), q1)))
set_option maxHeartbeats 4000000 in
set_option maxRecDepth 100000 in
theorem wX11_sheet_76 {r : Int32} {M1 : Mem} {k184 : Mem → Option (Int32 × Mem)} (X : CX E p s m args c meth cX11_sheet 2 (some .int) RX11) (hk184 : ∀ {M : Mem} {H : Heap} {locs : List Loc} {ls : Array Slot}, k184 M = some (r, M1) → Rl E (sh_ b) (nn b) s.heap M H locs → lv_has ls 2 [(0, .ref (eB E + 47))] → W p l e (rm 11 0 0) s m args below meth c H locs 0 0 (MQ below (qq E (some (.int r)) (sh_ b) (nn b) M1) args s 0 0 (fr E)) (F0 m 184 ls [])) : ∀ (n : Nat) {x1 : Int32} {M : Mem} {H : Heap} {locs : List Loc} {ls : Array Slot}, fX11_sheet_76 k184 n x1 M = some (r, M1) → Rl E (sh_ b) (nn b) s.heap M H locs → lv_has ls 2 [(0, .ref (eB E + 47)), (1, .int x1)] → W p l e (rm 11 0 0) s m args below meth c H locs 0 0 (MQ below (qq E (some (.int r)) (sh_ b) (nn b) M1) args s 0 0 (fr E)) (F0 m 76 ls []) := by
  obtain ⟨hx, hb, hr, hml, hown, hts, hK, hN, hO, hlk, hbs⟩ := id X
  intro n
  induction n with
  | zero =>
    intro x1 M H locs ls hf hR hl
    exact absurd (show none = some _ from hf) (fun h => by cases h)
  | succ n ih =>
    intro x1 M H locs ls hf hR hl
    rw [fX11_sheet_76] at hf
    refine lv_iload_n hx hb dX11_sheet_76 rfl (lv_at hl 1 rfl) ?_
    refine lv_bipush (v := 15) hx hb dX11_sheet_77 (by decide) ?_
    refine lv_icmp_ge (tgt := 184) hx hb dX11_sheet_79 (by decide) (fun q79 => ?_) (fun q79 => ?_)
    · have hf := (br_if hf).1 q79
      exact hk184 hf hR (lv_sub hl [0] rfl)
    · have hf := (br_if hf).2 q79
      refine lv_aload_n hx hb dX11_sheet_82 rfl (lv_at hl 0 rfl) ?_
      refine x_get hx hb hown hts hK hR kX11 (z_47 b) (j := 6) (by decide) fl_X11_15 (v := .ref (eB E + 49)) rfl dX11_sheet_83 ?_
      refine lv_iconst (v := 0) hx hb dX11_sheet_86 (by decide) ?_
      refine x_aald5 hx hb hK hR (z_49 b) (by decide) (r := 50) rfl dX11_sheet_87 ?_
      refine lv_iload_n hx hb dX11_sheet_88 rfl (lv_at hl 1 rfl) ?_
      refine lv_aload_n hx hb dX11_sheet_89 rfl (lv_at hl 0 rfl) ?_
      refine x_get hx hb hown hts hK hR kX11 (z_47 b) (j := 6) (by decide) fl_X11_15 (v := .ref (eB E + 49)) rfl dX11_sheet_90 ?_
      refine lv_iconst (v := 1) hx hb dX11_sheet_93 (by decide) ?_
      refine x_aald5 hx hb hK hR (z_49 b) (by decide) (r := 51) rfl dX11_sheet_94 ?_
      refine lv_iload_n hx hb dX11_sheet_95 rfl (lv_at hl 1 rfl) ?_
      obtain ⟨g96, hf⟩ := br_g hf
      refine x_iald hx hb hK hR (z_51 b) g96 dX11_sheet_96 ?_
      obtain ⟨g97, hf⟩ := br_g hf
      refine x_iast hx hb hK hR (z_50 b) g97 dX11_sheet_97 (fun H locs hR => ?_)
      obtain ⟨M97, e97⟩ : ∃ y : Mem, y = (sI M 50 (ix x1) (M.1 51 (ix x1))) := ⟨_, rfl⟩
      have hf := nx_at e97 hf
      have hR : Rl E (sh_ b) (nn b) s.heap M97 H locs := by rw [e97]; exact hR
      refine lv_aload_n hx hb dX11_sheet_98 rfl (lv_at hl 0 rfl) ?_
      refine x_get hx hb hown hts hK hR kX11 (z_47 b) (j := 7) (by decide) fl_X11_18 (v := .ref (eB E + 52)) rfl dX11_sheet_99 ?_
      refine lv_iconst (v := 0) hx hb dX11_sheet_102 (by decide) ?_
      refine x_aald5 hx hb hK hR (z_52 b) (by decide) (r := 53) rfl dX11_sheet_103 ?_
      refine lv_iload_n hx hb dX11_sheet_104 rfl (lv_at hl 1 rfl) ?_
      refine lv_aload_n hx hb dX11_sheet_105 rfl (lv_at hl 0 rfl) ?_
      refine x_get hx hb hown hts hK hR kX11 (z_47 b) (j := 7) (by decide) fl_X11_18 (v := .ref (eB E + 52)) rfl dX11_sheet_106 ?_
      refine lv_iconst (v := 1) hx hb dX11_sheet_109 (by decide) ?_
      refine x_aald5 hx hb hK hR (z_52 b) (by decide) (r := 54) rfl dX11_sheet_110 ?_
      refine lv_iload_n hx hb dX11_sheet_111 rfl (lv_at hl 1 rfl) ?_
      obtain ⟨g112, hf⟩ := br_g hf
      refine x_iald hx hb hK hR (z_54 b) g112 dX11_sheet_112 ?_
      obtain ⟨g113, hf⟩ := br_g hf
      refine x_iast hx hb hK hR (z_53 b) g113 dX11_sheet_113 (fun H locs hR => ?_)
      obtain ⟨M113, e113⟩ : ∃ y : Mem, y = (sI M97 53 (ix x1) (M97.1 54 (ix x1))) := ⟨_, rfl⟩
      have hf := nx_at e113 hf
      have hR : Rl E (sh_ b) (nn b) s.heap M113 H locs := by rw [e113]; exact hR
      refine lv_aload_n hx hb dX11_sheet_114 rfl (lv_at hl 0 rfl) ?_
      refine x_get hx hb hown hts hK hR kX11 (z_47 b) (j := 8) (by decide) fl_X11_21 (v := .ref (eB E + 55)) rfl dX11_sheet_115 ?_
      refine lv_iconst (v := 0) hx hb dX11_sheet_118 (by decide) ?_
      refine x_aald5 hx hb hK hR (z_55 b) (by decide) (r := 56) rfl dX11_sheet_119 ?_
      refine lv_iload_n hx hb dX11_sheet_120 rfl (lv_at hl 1 rfl) ?_
      refine lv_aload_n hx hb dX11_sheet_121 rfl (lv_at hl 0 rfl) ?_
      refine x_get hx hb hown hts hK hR kX11 (z_47 b) (j := 8) (by decide) fl_X11_21 (v := .ref (eB E + 55)) rfl dX11_sheet_122 ?_
      refine lv_iconst (v := 1) hx hb dX11_sheet_125 (by decide) ?_
      refine x_aald5 hx hb hK hR (z_55 b) (by decide) (r := 57) rfl dX11_sheet_126 ?_
      refine lv_iload_n hx hb dX11_sheet_127 rfl (lv_at hl 1 rfl) ?_
      obtain ⟨g128, hf⟩ := br_g hf
      refine x_iald hx hb hK hR (z_57 b) g128 dX11_sheet_128 ?_
      obtain ⟨g129, hf⟩ := br_g hf
      refine x_iast hx hb hK hR (z_56 b) g129 dX11_sheet_129 (fun H locs hR => ?_)
      obtain ⟨M129, e129⟩ : ∃ y : Mem, y = (sI M113 56 (ix x1) (M113.1 57 (ix x1))) := ⟨_, rfl⟩
      have hf := nx_at e129 hf
      have hR : Rl E (sh_ b) (nn b) s.heap M129 H locs := by rw [e129]; exact hR
      refine lv_aload_n hx hb dX11_sheet_130 rfl (lv_at hl 0 rfl) ?_
      refine x_get hx hb hown hts hK hR kX11 (z_47 b) (j := 9) (by decide) fl_X11_24 (v := .ref (eB E + 58)) rfl dX11_sheet_131 ?_
      refine lv_iconst (v := 0) hx hb dX11_sheet_134 (by decide) ?_
      refine x_aald5 hx hb hK hR (z_58 b) (by decide) (r := 59) rfl dX11_sheet_135 ?_
      refine lv_iload_n hx hb dX11_sheet_136 rfl (lv_at hl 1 rfl) ?_
      refine lv_aload_n hx hb dX11_sheet_137 rfl (lv_at hl 0 rfl) ?_
      refine x_get hx hb hown hts hK hR kX11 (z_47 b) (j := 9) (by decide) fl_X11_24 (v := .ref (eB E + 58)) rfl dX11_sheet_138 ?_
      refine lv_iconst (v := 1) hx hb dX11_sheet_141 (by decide) ?_
      refine x_aald5 hx hb hK hR (z_58 b) (by decide) (r := 60) rfl dX11_sheet_142 ?_
      refine lv_iload_n hx hb dX11_sheet_143 rfl (lv_at hl 1 rfl) ?_
      obtain ⟨g144, hf⟩ := br_g hf
      refine x_iald hx hb hK hR (z_60 b) g144 dX11_sheet_144 ?_
      obtain ⟨g145, hf⟩ := br_g hf
      refine x_iast hx hb hK hR (z_59 b) g145 dX11_sheet_145 (fun H locs hR => ?_)
      obtain ⟨M145, e145⟩ : ∃ y : Mem, y = (sI M129 59 (ix x1) (M129.1 60 (ix x1))) := ⟨_, rfl⟩
      have hf := nx_at e145 hf
      have hR : Rl E (sh_ b) (nn b) s.heap M145 H locs := by rw [e145]; exact hR
      refine lv_aload_n hx hb dX11_sheet_146 rfl (lv_at hl 0 rfl) ?_
      refine x_get hx hb hown hts hK hR kX11 (z_47 b) (j := 10) (by decide) fl_X11_27 (v := .ref (eB E + 61)) rfl dX11_sheet_147 ?_
      refine lv_iconst (v := 0) hx hb dX11_sheet_150 (by decide) ?_
      refine x_aald5 hx hb hK hR (z_61 b) (by decide) (r := 62) rfl dX11_sheet_151 ?_
      refine lv_iload_n hx hb dX11_sheet_152 rfl (lv_at hl 1 rfl) ?_
      refine lv_aload_n hx hb dX11_sheet_153 rfl (lv_at hl 0 rfl) ?_
      refine x_get hx hb hown hts hK hR kX11 (z_47 b) (j := 10) (by decide) fl_X11_27 (v := .ref (eB E + 61)) rfl dX11_sheet_154 ?_
      refine lv_iconst (v := 1) hx hb dX11_sheet_157 (by decide) ?_
      refine x_aald5 hx hb hK hR (z_61 b) (by decide) (r := 63) rfl dX11_sheet_158 ?_
      refine lv_iload_n hx hb dX11_sheet_159 rfl (lv_at hl 1 rfl) ?_
      obtain ⟨g160, hf⟩ := br_g hf
      refine x_iald hx hb hK hR (z_63 b) g160 dX11_sheet_160 ?_
      obtain ⟨g161, hf⟩ := br_g hf
      refine x_iast hx hb hK hR (z_62 b) g161 dX11_sheet_161 (fun H locs hR => ?_)
      obtain ⟨M161, e161⟩ : ∃ y : Mem, y = (sI M145 62 (ix x1) (M145.1 63 (ix x1))) := ⟨_, rfl⟩
      have hf := nx_at e161 hf
      have hR : Rl E (sh_ b) (nn b) s.heap M161 H locs := by rw [e161]; exact hR
      refine lv_aload_n hx hb dX11_sheet_162 rfl (lv_at hl 0 rfl) ?_
      refine x_get hx hb hown hts hK hR kX11 (z_47 b) (j := 11) (by decide) fl_X11_30 (v := .ref (eB E + 64)) rfl dX11_sheet_163 ?_
      refine lv_iconst (v := 0) hx hb dX11_sheet_166 (by decide) ?_
      refine x_aald5 hx hb hK hR (z_64 b) (by decide) (r := 65) rfl dX11_sheet_167 ?_
      refine lv_iload_n hx hb dX11_sheet_168 rfl (lv_at hl 1 rfl) ?_
      refine lv_aload_n hx hb dX11_sheet_169 rfl (lv_at hl 0 rfl) ?_
      refine x_get hx hb hown hts hK hR kX11 (z_47 b) (j := 11) (by decide) fl_X11_30 (v := .ref (eB E + 64)) rfl dX11_sheet_170 ?_
      refine lv_iconst (v := 1) hx hb dX11_sheet_173 (by decide) ?_
      refine x_aald5 hx hb hK hR (z_64 b) (by decide) (r := 66) rfl dX11_sheet_174 ?_
      refine lv_iload_n hx hb dX11_sheet_175 rfl (lv_at hl 1 rfl) ?_
      obtain ⟨g176, hf⟩ := br_g hf
      refine x_iald hx hb hK hR (z_66 b) g176 dX11_sheet_176 ?_
      obtain ⟨g177, hf⟩ := br_g hf
      refine x_iast hx hb hK hR (z_65 b) g177 dX11_sheet_177 (fun H locs hR => ?_)
      obtain ⟨M177, e177⟩ : ∃ y : Mem, y = (sI M161 65 (ix x1) (M161.1 66 (ix x1))) := ⟨_, rfl⟩
      have hf := nx_at e177 hf
      have hR : Rl E (sh_ b) (nn b) s.heap M177 H locs := by rw [e177]; exact hR
      obtain ⟨v178, e178⟩ : ∃ y : Int32, y = (x1 + (1 : Int32)) := ⟨_, rfl⟩
      have hf := nx_at e178 hf
      refine lv_iinc (v := v178) (lv' := [(1, .int v178), (0, .ref (eB E + 47))]) hx hb dX11_sheet_178 hl (k := 1) rfl (by rw [e178]; rfl) (by decide) rfl (fun ls hl => ?_)
      refine lv_goto (tgt := 76) hx hb dX11_sheet_181 (by decide) ?_
      exact ih hf hR (lv_sub hl [1, 0] rfl)
set_option maxHeartbeats 4000000 in
set_option maxRecDepth 100000 in
theorem wX11_sheet_186 {r : Int32} {M1 : Mem} {k230 : Mem → Option (Int32 × Mem)} (X : CX E p s m args c meth cX11_sheet 2 (some .int) RX11) (hk230 : ∀ {M : Mem} {H : Heap} {locs : List Loc} {ls : Array Slot}, k230 M = some (r, M1) → Rl E (sh_ b) (nn b) s.heap M H locs → lv_has ls 2 [(0, .ref (eB E + 47))] → W p l e (rm 11 0 0) s m args below meth c H locs 0 0 (MQ below (qq E (some (.int r)) (sh_ b) (nn b) M1) args s 0 0 (fr E)) (F0 m 230 ls [])) : ∀ (n : Nat) {x1 : Int32} {M : Mem} {H : Heap} {locs : List Loc} {ls : Array Slot}, fX11_sheet_186 k230 n x1 M = some (r, M1) → Rl E (sh_ b) (nn b) s.heap M H locs → lv_has ls 2 [(0, .ref (eB E + 47)), (1, .int x1)] → W p l e (rm 11 0 0) s m args below meth c H locs 0 0 (MQ below (qq E (some (.int r)) (sh_ b) (nn b) M1) args s 0 0 (fr E)) (F0 m 186 ls []) := by
  obtain ⟨hx, hb, hr, hml, hown, hts, hK, hN, hO, hlk, hbs⟩ := id X
  intro n
  induction n with
  | zero =>
    intro x1 M H locs ls hf hR hl
    exact absurd (show none = some _ from hf) (fun h => by cases h)
  | succ n ih =>
    intro x1 M H locs ls hf hR hl
    rw [fX11_sheet_186] at hf
    refine lv_iload_n hx hb dX11_sheet_186 rfl (lv_at hl 1 rfl) ?_
    refine lv_bipush (v := 20) hx hb dX11_sheet_187 (by decide) ?_
    refine lv_icmp_ge (tgt := 230) hx hb dX11_sheet_189 (by decide) (fun q189 => ?_) (fun q189 => ?_)
    · have hf := (br_if hf).1 q189
      exact hk230 hf hR (lv_sub hl [0] rfl)
    · have hf := (br_if hf).2 q189
      refine lv_aload_n hx hb dX11_sheet_192 rfl (lv_at hl 0 rfl) ?_
      refine x_get hx hb hown hts hK hR kX11 (z_47 b) (j := 12) (by decide) fl_X11_33 (v := .ref (eB E + 67)) rfl dX11_sheet_193 ?_
      refine lv_iconst (v := 0) hx hb dX11_sheet_196 (by decide) ?_
      refine x_aald5 hx hb hK hR (z_67 b) (by decide) (r := 68) rfl dX11_sheet_197 ?_
      refine lv_iload_n hx hb dX11_sheet_198 rfl (lv_at hl 1 rfl) ?_
      refine lv_aload_n hx hb dX11_sheet_199 rfl (lv_at hl 0 rfl) ?_
      refine x_get hx hb hown hts hK hR kX11 (z_47 b) (j := 12) (by decide) fl_X11_33 (v := .ref (eB E + 67)) rfl dX11_sheet_200 ?_
      refine lv_iconst (v := 1) hx hb dX11_sheet_203 (by decide) ?_
      refine x_aald5 hx hb hK hR (z_67 b) (by decide) (r := 69) rfl dX11_sheet_204 ?_
      refine lv_iload_n hx hb dX11_sheet_205 rfl (lv_at hl 1 rfl) ?_
      obtain ⟨g206, hf⟩ := br_g hf
      refine x_iald hx hb hK hR (z_69 b) g206 dX11_sheet_206 ?_
      obtain ⟨g207, hf⟩ := br_g hf
      refine x_iast hx hb hK hR (z_68 b) g207 dX11_sheet_207 (fun H locs hR => ?_)
      obtain ⟨M207, e207⟩ : ∃ y : Mem, y = (sI M 68 (ix x1) (M.1 69 (ix x1))) := ⟨_, rfl⟩
      have hf := nx_at e207 hf
      have hR : Rl E (sh_ b) (nn b) s.heap M207 H locs := by rw [e207]; exact hR
      refine lv_aload_n hx hb dX11_sheet_208 rfl (lv_at hl 0 rfl) ?_
      refine x_get hx hb hown hts hK hR kX11 (z_47 b) (j := 13) (by decide) fl_X11_36 (v := .ref (eB E + 70)) rfl dX11_sheet_209 ?_
      refine lv_iconst (v := 0) hx hb dX11_sheet_212 (by decide) ?_
      refine x_aald5 hx hb hK hR (z_70 b) (by decide) (r := 71) rfl dX11_sheet_213 ?_
      refine lv_iload_n hx hb dX11_sheet_214 rfl (lv_at hl 1 rfl) ?_
      refine lv_aload_n hx hb dX11_sheet_215 rfl (lv_at hl 0 rfl) ?_
      refine x_get hx hb hown hts hK hR kX11 (z_47 b) (j := 13) (by decide) fl_X11_36 (v := .ref (eB E + 70)) rfl dX11_sheet_216 ?_
      refine lv_iconst (v := 1) hx hb dX11_sheet_219 (by decide) ?_
      refine x_aald5 hx hb hK hR (z_70 b) (by decide) (r := 72) rfl dX11_sheet_220 ?_
      refine lv_iload_n hx hb dX11_sheet_221 rfl (lv_at hl 1 rfl) ?_
      obtain ⟨g222, hf⟩ := br_g hf
      refine x_iald hx hb hK hR (z_72 b) g222 dX11_sheet_222 ?_
      obtain ⟨g223, hf⟩ := br_g hf
      refine x_iast hx hb hK hR (z_71 b) g223 dX11_sheet_223 (fun H locs hR => ?_)
      obtain ⟨M223, e223⟩ : ∃ y : Mem, y = (sI M207 71 (ix x1) (M207.1 72 (ix x1))) := ⟨_, rfl⟩
      have hf := nx_at e223 hf
      have hR : Rl E (sh_ b) (nn b) s.heap M223 H locs := by rw [e223]; exact hR
      obtain ⟨v224, e224⟩ : ∃ y : Int32, y = (x1 + (1 : Int32)) := ⟨_, rfl⟩
      have hf := nx_at e224 hf
      refine lv_iinc (v := v224) (lv' := [(1, .int v224), (0, .ref (eB E + 47))]) hx hb dX11_sheet_224 hl (k := 1) rfl (by rw [e224]; rfl) (by decide) rfl (fun ls hl => ?_)
      refine lv_goto (tgt := 186) hx hb dX11_sheet_227 (by decide) ?_
      exact ih hf hR (lv_sub hl [1, 0] rfl)
set_option maxHeartbeats 4000000 in
set_option maxRecDepth 100000 in
theorem wX11_sheet_230 {r : Int32} {M1 : Mem} (X : CX E p s m args c meth cX11_sheet 2 (some .int) RX11) : ∀ {M : Mem} {H : Heap} {locs : List Loc} {ls : Array Slot}, fX11_sheet_230 M = some (r, M1) → Rl E (sh_ b) (nn b) s.heap M H locs → lv_has ls 2 [(0, .ref (eB E + 47))] → W p l e (rm 11 0 0) s m args below meth c H locs 0 0 (MQ below (qq E (some (.int r)) (sh_ b) (nn b) M1) args s 0 0 (fr E)) (F0 m 230 ls []) := by
  obtain ⟨hx, hb, hr, hml, hown, hts, hK, hN, hO, hlk, hbs⟩ := id X
  intro M H locs ls hf hR hl
  unfold fX11_sheet_230 at hf
  refine lv_aload_n hx hb dX11_sheet_230 rfl (lv_at hl 0 rfl) ?_
  refine lv_iconst (v := 0) hx hb dX11_sheet_231 (by decide) ?_
  refine x_puti hx hb hown hts hK hR kX11 (z_47 b) (j := 1) (by decide) fl_X11_114 rfl rfl rfl rfl dX11_sheet_232 (fun H locs hR => ?_)
  obtain ⟨M232, e232⟩ : ∃ y : Mem, y = (sI M 47 1 (0 : Int32)) := ⟨_, rfl⟩
  have hf := nx_at e232 hf
  have hR : Rl E (sh_ b) (nn b) s.heap M232 H locs := by rw [e232]; exact hR
  refine lv_aload_n hx hb dX11_sheet_235 rfl (lv_at hl 0 rfl) ?_
  refine lv_iconst (v := 0) hx hb dX11_sheet_236 (by decide) ?_
  refine x_puti hx hb hown hts hK hR kX11 (z_47 b) (j := 48) (by decide) fl_X11_231 rfl rfl rfl rfl dX11_sheet_237 (fun H locs hR => ?_)
  obtain ⟨M237, e237⟩ : ∃ y : Mem, y = (sI M232 47 48 (0 : Int32)) := ⟨_, rfl⟩
  have hf := nx_at e237 hf
  have hR : Rl E (sh_ b) (nn b) s.heap M237 H locs := by rw [e237]; exact hR
  refine lv_aload_n hx hb dX11_sheet_240 rfl (lv_at hl 0 rfl) ?_
  refine lv_iconst (v := 0) hx hb dX11_sheet_241 (by decide) ?_
  refine x_puti hx hb hown hts hK hR kX11 (z_47 b) (j := 29) (by decide) fl_X11_234 rfl rfl rfl rfl dX11_sheet_242 (fun H locs hR => ?_)
  obtain ⟨M242, e242⟩ : ∃ y : Mem, y = (sI M237 47 29 (0 : Int32)) := ⟨_, rfl⟩
  have hf := nx_at e242 hf
  have hR : Rl E (sh_ b) (nn b) s.heap M242 H locs := by rw [e242]; exact hR
  refine lv_aload_n hx hb dX11_sheet_245 rfl (lv_at hl 0 rfl) ?_
  obtain ⟨q246, c246, hf⟩ := br_b hf
  refine x_callV (k := 47) (As := []) (rest := []) (st1 := [.int q246]) X hR (ctX11_voters c246) ml_X11_237 im_X11_voters se_X11_voters in_X11 co_X11_voters yo_X11_voters rfl kX11 (z_47 b) (rm_ok (by decide) (by decide)) rfl hl.1 rfl rfl (Nat.le_of_ble_eq_true rfl) dX11_sheet_246 ⟨Nat.zero_le _, Nat.zero_le _⟩ (fun H locs hR => ?_)
  cases hf
  exact x_iret hx hb hr hlk hR dX11_sheet_249
set_option maxHeartbeats 4000000 in
set_option maxRecDepth 100000 in
theorem wX11_sheet_184 {r : Int32} {M1 : Mem} (X : CX E p s m args c meth cX11_sheet 2 (some .int) RX11) : ∀ {M : Mem} {H : Heap} {locs : List Loc} {ls : Array Slot}, fX11_sheet_184 M = some (r, M1) → Rl E (sh_ b) (nn b) s.heap M H locs → lv_has ls 2 [(0, .ref (eB E + 47))] → W p l e (rm 11 0 0) s m args below meth c H locs 0 0 (MQ below (qq E (some (.int r)) (sh_ b) (nn b) M1) args s 0 0 (fr E)) (F0 m 184 ls []) := by
  obtain ⟨hx, hb, hr, hml, hown, hts, hK, hN, hO, hlk, hbs⟩ := id X
  intro M H locs ls hf hR hl
  unfold fX11_sheet_184 at hf
  refine lv_iconst (v := 0) hx hb dX11_sheet_184 (by decide) ?_
  refine lv_istore_n (lv' := [(1, .int (0 : Int32)), (0, .ref (eB E + 47))]) hx hb dX11_sheet_185 rfl hl (by decide) rfl (fun ls hl => ?_)
  exact wX11_sheet_186 X (fun hf hR hl => wX11_sheet_230 X hf hR hl) FU hf hR (lv_sub hl [1, 0] rfl)
set_option maxHeartbeats 4000000 in
set_option maxRecDepth 100000 in
theorem wX11_sheet_0 {r : Int32} {M1 : Mem} (X : CX E p s m args c meth cX11_sheet 2 (some .int) RX11) : ∀ {M : Mem} {H : Heap} {locs : List Loc} {ls : Array Slot}, fX11_sheet M = some (r, M1) → Rl E (sh_ b) (nn b) s.heap M H locs → lv_has ls 2 [(0, .ref (eB E + 47))] → W p l e (rm 11 0 0) s m args below meth c H locs 0 0 (MQ below (qq E (some (.int r)) (sh_ b) (nn b) M1) args s 0 0 (fr E)) (F0 m 0 ls []) := by
  obtain ⟨hx, hb, hr, hml, hown, hts, hK, hN, hO, hlk, hbs⟩ := id X
  intro M H locs ls hf hR hl
  unfold fX11_sheet at hf
  refine lv_aload_n hx hb dX11_sheet_0 rfl (lv_at hl 0 rfl) ?_
  obtain ⟨q1, c1, hf⟩ := br_b hf
  refine x_callV (k := 47) (As := []) (rest := []) (st1 := []) X hR (ctX11_reads c1) ml_X11_228 im_X11_reads se_X11_reads in_X11 co_X11_reads yo_X11_reads rfl kX11 (z_47 b) (rm_ok (by decide) (by decide)) rfl hl.1 rfl rfl (Nat.le_of_ble_eq_true rfl) dX11_sheet_1 ⟨Nat.zero_le _, Nat.zero_le _⟩ (fun H locs hR => ?_)
  refine lv_aload_n hx hb dX11_sheet_4 rfl (lv_at hl 0 rfl) ?_
  refine x_get hx hb hown hts hK hR kX11 (z_47 b) (j := 4) (by decide) fl_X11_147 (v := .int (q1.1 47 4)) rfl dX11_sheet_5 ?_
  refine lv_iconst (v := -1) hx hb dX11_sheet_8 (by decide) ?_
  refine lv_icmp_eq (tgt := 14) hx hb dX11_sheet_9 (by decide) (fun q9 => ?_) (fun q9 => ?_)
  · have hf := (br_if hf).1 q9
    refine lv_aload_n hx hb dX11_sheet_14 rfl (lv_at hl 0 rfl) ?_
    refine x_get hx hb hown hts hK hR kX11 (z_47 b) (j := 14) (by decide) fl_X11_39 (v := .ref (eB E + 73)) rfl dX11_sheet_15 ?_
    refine lv_iconst (v := 0) hx hb dX11_sheet_18 (by decide) ?_
    refine lv_aload_n hx hb dX11_sheet_19 rfl (lv_at hl 0 rfl) ?_
    refine x_get hx hb hown hts hK hR kX11 (z_47 b) (j := 14) (by decide) fl_X11_39 (v := .ref (eB E + 73)) rfl dX11_sheet_20 ?_
    refine lv_iconst (v := 1) hx hb dX11_sheet_23 (by decide) ?_
    refine x_iald hx hb hK hR (z_73 b) (by decide) dX11_sheet_24 ?_
    refine x_iast hx hb hK hR (z_73 b) (by decide) dX11_sheet_25 (fun H locs hR => ?_)
    obtain ⟨M25, e25⟩ : ∃ y : Mem, y = (sI q1 73 (ix (0 : Int32)) (q1.1 73 (ix (1 : Int32)))) := ⟨_, rfl⟩
    have hf := nx_at e25 hf
    have hR : Rl E (sh_ b) (nn b) s.heap M25 H locs := by rw [e25]; exact hR
    refine lv_aload_n hx hb dX11_sheet_26 rfl (lv_at hl 0 rfl) ?_
    refine x_get hx hb hown hts hK hR kX11 (z_47 b) (j := 15) (by decide) fl_X11_43 (v := .ref (eB E + 74)) rfl dX11_sheet_27 ?_
    refine lv_iconst (v := 0) hx hb dX11_sheet_30 (by decide) ?_
    refine lv_aload_n hx hb dX11_sheet_31 rfl (lv_at hl 0 rfl) ?_
    refine x_get hx hb hown hts hK hR kX11 (z_47 b) (j := 15) (by decide) fl_X11_43 (v := .ref (eB E + 74)) rfl dX11_sheet_32 ?_
    refine lv_iconst (v := 1) hx hb dX11_sheet_35 (by decide) ?_
    refine x_iald hx hb hK hR (z_74 b) (by decide) dX11_sheet_36 ?_
    refine x_iast hx hb hK hR (z_74 b) (by decide) dX11_sheet_37 (fun H locs hR => ?_)
    obtain ⟨M37, e37⟩ : ∃ y : Mem, y = (sI M25 74 (ix (0 : Int32)) (M25.1 74 (ix (1 : Int32)))) := ⟨_, rfl⟩
    have hf := nx_at e37 hf
    have hR : Rl E (sh_ b) (nn b) s.heap M37 H locs := by rw [e37]; exact hR
    refine lv_aload_n hx hb dX11_sheet_38 rfl (lv_at hl 0 rfl) ?_
    refine x_get hx hb hown hts hK hR kX11 (z_47 b) (j := 16) (by decide) fl_X11_46 (v := .ref (eB E + 75)) rfl dX11_sheet_39 ?_
    refine lv_iconst (v := 0) hx hb dX11_sheet_42 (by decide) ?_
    refine lv_aload_n hx hb dX11_sheet_43 rfl (lv_at hl 0 rfl) ?_
    refine x_get hx hb hown hts hK hR kX11 (z_47 b) (j := 16) (by decide) fl_X11_46 (v := .ref (eB E + 75)) rfl dX11_sheet_44 ?_
    refine lv_iconst (v := 1) hx hb dX11_sheet_47 (by decide) ?_
    refine x_iald hx hb hK hR (z_75 b) (by decide) dX11_sheet_48 ?_
    refine x_iast hx hb hK hR (z_75 b) (by decide) dX11_sheet_49 (fun H locs hR => ?_)
    obtain ⟨M49, e49⟩ : ∃ y : Mem, y = (sI M37 75 (ix (0 : Int32)) (M37.1 75 (ix (1 : Int32)))) := ⟨_, rfl⟩
    have hf := nx_at e49 hf
    have hR : Rl E (sh_ b) (nn b) s.heap M49 H locs := by rw [e49]; exact hR
    refine lv_aload_n hx hb dX11_sheet_50 rfl (lv_at hl 0 rfl) ?_
    refine x_get hx hb hown hts hK hR kX11 (z_47 b) (j := 17) (by decide) fl_X11_49 (v := .ref (eB E + 76)) rfl dX11_sheet_51 ?_
    refine lv_iconst (v := 0) hx hb dX11_sheet_54 (by decide) ?_
    refine lv_aload_n hx hb dX11_sheet_55 rfl (lv_at hl 0 rfl) ?_
    refine x_get hx hb hown hts hK hR kX11 (z_47 b) (j := 17) (by decide) fl_X11_49 (v := .ref (eB E + 76)) rfl dX11_sheet_56 ?_
    refine lv_iconst (v := 1) hx hb dX11_sheet_59 (by decide) ?_
    refine x_iald hx hb hK hR (z_76 b) (by decide) dX11_sheet_60 ?_
    refine x_iast hx hb hK hR (z_76 b) (by decide) dX11_sheet_61 (fun H locs hR => ?_)
    obtain ⟨M61, e61⟩ : ∃ y : Mem, y = (sI M49 76 (ix (0 : Int32)) (M49.1 76 (ix (1 : Int32)))) := ⟨_, rfl⟩
    have hf := nx_at e61 hf
    have hR : Rl E (sh_ b) (nn b) s.heap M61 H locs := by rw [e61]; exact hR
    refine lv_aload_n hx hb dX11_sheet_62 rfl (lv_at hl 0 rfl) ?_
    refine x_get hx hb hown hts hK hR kX11 (z_47 b) (j := 18) (by decide) fl_X11_52 (v := .ref (eB E + 77)) rfl dX11_sheet_63 ?_
    refine lv_iconst (v := 0) hx hb dX11_sheet_66 (by decide) ?_
    refine lv_aload_n hx hb dX11_sheet_67 rfl (lv_at hl 0 rfl) ?_
    refine x_get hx hb hown hts hK hR kX11 (z_47 b) (j := 18) (by decide) fl_X11_52 (v := .ref (eB E + 77)) rfl dX11_sheet_68 ?_
    refine lv_iconst (v := 1) hx hb dX11_sheet_71 (by decide) ?_
    refine x_iald hx hb hK hR (z_77 b) (by decide) dX11_sheet_72 ?_
    refine x_iast hx hb hK hR (z_77 b) (by decide) dX11_sheet_73 (fun H locs hR => ?_)
    obtain ⟨M73, e73⟩ : ∃ y : Mem, y = (sI M61 77 (ix (0 : Int32)) (M61.1 77 (ix (1 : Int32)))) := ⟨_, rfl⟩
    have hf := nx_at e73 hf
    have hR : Rl E (sh_ b) (nn b) s.heap M73 H locs := by rw [e73]; exact hR
    refine lv_iconst (v := 0) hx hb dX11_sheet_74 (by decide) ?_
    refine lv_istore_n (lv' := [(1, .int (0 : Int32)), (0, .ref (eB E + 47))]) hx hb dX11_sheet_75 rfl hl (by decide) rfl (fun ls hl => ?_)
    exact wX11_sheet_76 X (fun hf hR hl => wX11_sheet_184 X hf hR hl) FU hf hR (lv_sub hl [1, 0] rfl)
  · have hf := (br_if hf).2 q9
    refine lv_iconst (v := -1) hx hb dX11_sheet_12 (by decide) ?_
    cases hf
    exact x_iret hx hb hr hlk hR dX11_sheet_13
theorem ctX11_sheet {l : Launch} {E : Ge} {b : Bool} {M : Mem} {r : Int32} {M1 : Mem} (h : fX11_sheet M = some (r, M1)) : CT l E yX11_sheet cX11_sheet 2 (some .int) 11 0 0 [.ref (eB E + 47)] (some (.int r)) (sh_ b) (nn b) M (sh_ b) (nn b) M1 := by
  refine met_of (by decide) (Nat.le_of_ble_eq_true rfl) ?_
  intro p e s m args below meth c X _ hR ls hl
  exact wX11_sheet_0 X h hR hl
def fX11_undo (M : Mem) : Option (Int32 × Mem) := (if (M.1 47 48) = 0 then some ((-1 : Int32), M) else nx (sI M 47 48 ((M.1 47 48) - (1 : Int32))) (fun M16 => (if inb (M16.1 47 48) 40 = true then nx (M16.1 (101 + ix (M16.1 47 48)) (ix (0 : Int32))) (fun v30 => (if inb (M16.1 47 48) 40 = true then (if inb v30 15 = true then nx (sI M16 50 (ix v30) (M16.1 (101 + ix (M16.1 47 48)) (ix (1 : Int32)))) (fun M49 => (if inb (M49.1 47 48) 40 = true then (if inb v30 15 = true then nx (sI M49 53 (ix v30) (M49.1 (101 + ix (M49.1 47 48)) (ix (2 : Int32)))) (fun M68 => nx (sI M68 47 29 (0 : Int32)) (fun M71 => some (v30, M71))) else none) else none)) else none) else none)) else none)))
set_option maxHeartbeats 4000000 in
set_option maxRecDepth 100000 in
theorem wX11_undo_0 {r : Int32} {M1 : Mem} (X : CX E p s m args c meth cX11_undo 2 (some .int) RX11) : ∀ {M : Mem} {H : Heap} {locs : List Loc} {ls : Array Slot}, fX11_undo M = some (r, M1) → Rl E (sh_ b) (nn b) s.heap M H locs → lv_has ls 2 [(0, .ref (eB E + 47))] → W p l e (rm 1 0 0) s m args below meth c H locs 0 0 (MQ below (qq E (some (.int r)) (sh_ b) (nn b) M1) args s 0 0 (fr E)) (F0 m 0 ls []) := by
  obtain ⟨hx, hb, hr, hml, hown, hts, hK, hN, hO, hlk, hbs⟩ := id X
  intro M H locs ls hf hR hl
  unfold fX11_undo at hf
  refine lv_aload_n hx hb dX11_undo_0 rfl (lv_at hl 0 rfl) ?_
  refine x_get hx hb hown hts hK hR kX11 (z_47 b) (j := 48) (by decide) fl_X11_231 (v := .int (M.1 47 48)) rfl dX11_undo_1 ?_
  refine lv_if_ne (tgt := 9) hx hb dX11_undo_4 (by decide) (fun q4 => ?_) (fun q4 => ?_)
  · have hf := (br_if hf).2 q4
    refine lv_aload_n hx hb dX11_undo_9 rfl (lv_at hl 0 rfl) ?_
    refine lv_dup hx hb dX11_undo_10 rfl ?_
    refine x_get hx hb hown hts hK hR kX11 (z_47 b) (j := 48) (by decide) fl_X11_231 (v := .int (M.1 47 48)) rfl dX11_undo_11 ?_
    refine lv_iconst (v := 1) hx hb dX11_undo_14 (by decide) ?_
    refine lv_isub hx hb dX11_undo_15 ?_
    refine x_puti hx hb hown hts hK hR kX11 (z_47 b) (j := 48) (by decide) fl_X11_231 rfl rfl rfl rfl dX11_undo_16 (fun H locs hR => ?_)
    obtain ⟨M16, e16⟩ : ∃ y : Mem, y = (sI M 47 48 ((M.1 47 48) - (1 : Int32))) := ⟨_, rfl⟩
    have hf := nx_at e16 hf
    have hR : Rl E (sh_ b) (nn b) s.heap M16 H locs := by rw [e16]; exact hR
    refine lv_aload_n hx hb dX11_undo_19 rfl (lv_at hl 0 rfl) ?_
    refine x_get hx hb hown hts hK hR kX11 (z_47 b) (j := 47) (by decide) fl_X11_111 (v := .ref (eB E + 100)) rfl dX11_undo_20 ?_
    refine lv_aload_n hx hb dX11_undo_23 rfl (lv_at hl 0 rfl) ?_
    refine x_get hx hb hown hts hK hR kX11 (z_47 b) (j := 48) (by decide) fl_X11_231 (v := .int (M16.1 47 48)) rfl dX11_undo_24 ?_
    obtain ⟨g27, hf⟩ := br_g hf
    refine x_aald5 hx hb hK hR (z_100 b) g27 (r := (101 + ix (M16.1 47 48))) (zq_100 g27) dX11_undo_27 ?_
    refine lv_iconst (v := 0) hx hb dX11_undo_28 (by decide) ?_
    refine x_iald hx hb hK hR (zr_100 b g27) (by decide) dX11_undo_29 ?_
    refine lv_topi (fun v30 e30 => ?_)
    have hf := nx_at e30 hf
    refine lv_istore_n (lv' := [(1, .int v30), (0, .ref (eB E + 47))]) hx hb dX11_undo_30 rfl hl (by decide) rfl (fun ls hl => ?_)
    refine lv_aload_n hx hb dX11_undo_31 rfl (lv_at hl 1 rfl) ?_
    refine x_get hx hb hown hts hK hR kX11 (z_47 b) (j := 6) (by decide) fl_X11_15 (v := .ref (eB E + 49)) rfl dX11_undo_32 ?_
    refine lv_iconst (v := 0) hx hb dX11_undo_35 (by decide) ?_
    refine x_aald5 hx hb hK hR (z_49 b) (by decide) (r := 50) rfl dX11_undo_36 ?_
    refine lv_iload_n hx hb dX11_undo_37 rfl (lv_at hl 0 rfl) ?_
    refine lv_aload_n hx hb dX11_undo_38 rfl (lv_at hl 1 rfl) ?_
    refine x_get hx hb hown hts hK hR kX11 (z_47 b) (j := 47) (by decide) fl_X11_111 (v := .ref (eB E + 100)) rfl dX11_undo_39 ?_
    refine lv_aload_n hx hb dX11_undo_42 rfl (lv_at hl 1 rfl) ?_
    refine x_get hx hb hown hts hK hR kX11 (z_47 b) (j := 48) (by decide) fl_X11_231 (v := .int (M16.1 47 48)) rfl dX11_undo_43 ?_
    obtain ⟨g46, hf⟩ := br_g hf
    refine x_aald5 hx hb hK hR (z_100 b) g46 (r := (101 + ix (M16.1 47 48))) (zq_100 g46) dX11_undo_46 ?_
    refine lv_iconst (v := 1) hx hb dX11_undo_47 (by decide) ?_
    refine x_iald hx hb hK hR (zr_100 b g46) (by decide) dX11_undo_48 ?_
    obtain ⟨g49, hf⟩ := br_g hf
    refine x_iast hx hb hK hR (z_50 b) g49 dX11_undo_49 (fun H locs hR => ?_)
    obtain ⟨M49, e49⟩ : ∃ y : Mem, y = (sI M16 50 (ix v30) (M16.1 (101 + ix (M16.1 47 48)) (ix (1 : Int32)))) := ⟨_, rfl⟩
    have hf := nx_at e49 hf
    have hR : Rl E (sh_ b) (nn b) s.heap M49 H locs := by rw [e49]; exact hR
    refine lv_aload_n hx hb dX11_undo_50 rfl (lv_at hl 1 rfl) ?_
    refine x_get hx hb hown hts hK hR kX11 (z_47 b) (j := 7) (by decide) fl_X11_18 (v := .ref (eB E + 52)) rfl dX11_undo_51 ?_
    refine lv_iconst (v := 0) hx hb dX11_undo_54 (by decide) ?_
    refine x_aald5 hx hb hK hR (z_52 b) (by decide) (r := 53) rfl dX11_undo_55 ?_
    refine lv_iload_n hx hb dX11_undo_56 rfl (lv_at hl 0 rfl) ?_
    refine lv_aload_n hx hb dX11_undo_57 rfl (lv_at hl 1 rfl) ?_
    refine x_get hx hb hown hts hK hR kX11 (z_47 b) (j := 47) (by decide) fl_X11_111 (v := .ref (eB E + 100)) rfl dX11_undo_58 ?_
    refine lv_aload_n hx hb dX11_undo_61 rfl (lv_at hl 1 rfl) ?_
    refine x_get hx hb hown hts hK hR kX11 (z_47 b) (j := 48) (by decide) fl_X11_231 (v := .int (M49.1 47 48)) rfl dX11_undo_62 ?_
    obtain ⟨g65, hf⟩ := br_g hf
    refine x_aald5 hx hb hK hR (z_100 b) g65 (r := (101 + ix (M49.1 47 48))) (zq_100 g65) dX11_undo_65 ?_
    refine lv_iconst (v := 2) hx hb dX11_undo_66 (by decide) ?_
    refine x_iald hx hb hK hR (zr_100 b g65) (by decide) dX11_undo_67 ?_
    obtain ⟨g68, hf⟩ := br_g hf
    refine x_iast hx hb hK hR (z_53 b) g68 dX11_undo_68 (fun H locs hR => ?_)
    obtain ⟨M68, e68⟩ : ∃ y : Mem, y = (sI M49 53 (ix v30) (M49.1 (101 + ix (M49.1 47 48)) (ix (2 : Int32)))) := ⟨_, rfl⟩
    have hf := nx_at e68 hf
    have hR : Rl E (sh_ b) (nn b) s.heap M68 H locs := by rw [e68]; exact hR
    refine lv_aload_n hx hb dX11_undo_69 rfl (lv_at hl 1 rfl) ?_
    refine lv_iconst (v := 0) hx hb dX11_undo_70 (by decide) ?_
    refine x_puti hx hb hown hts hK hR kX11 (z_47 b) (j := 29) (by decide) fl_X11_234 rfl rfl rfl rfl dX11_undo_71 (fun H locs hR => ?_)
    obtain ⟨M71, e71⟩ : ∃ y : Mem, y = (sI M68 47 29 (0 : Int32)) := ⟨_, rfl⟩
    have hf := nx_at e71 hf
    have hR : Rl E (sh_ b) (nn b) s.heap M71 H locs := by rw [e71]; exact hR
    refine lv_iload_n hx hb dX11_undo_74 rfl (lv_at hl 0 rfl) ?_
    cases hf
    exact x_iret hx hb hr hlk hR dX11_undo_75
  · have hf := (br_if hf).1 q4
    refine lv_iconst (v := -1) hx hb dX11_undo_7 (by decide) ?_
    cases hf
    exact x_iret hx hb hr hlk hR dX11_undo_8
theorem ctX11_undo {l : Launch} {E : Ge} {b : Bool} {M : Mem} {r : Int32} {M1 : Mem} (h : fX11_undo M = some (r, M1)) : CT l E yX11_undo cX11_undo 2 (some .int) 1 0 0 [.ref (eB E + 47)] (some (.int r)) (sh_ b) (nn b) M (sh_ b) (nn b) M1 := by
  refine met_of (by decide) (Nat.le_of_ble_eq_true rfl) ?_
  intro p e s m args below meth c X _ hR ls hl
  exact wX11_undo_0 X h hR hl
def fX11_voter (M : Mem) (x1 : Int32) (x2 : Int32) : Option Int32 := (fX11_isVoter M x1).bind (fun q2 => (if q2 = 0 then some (-1 : Int32) else (if x2 = (0 : Int32) then (if inb x1 15 = true then some (M.1 50 (ix x1)) else none) else (if x2 = (1 : Int32) then (if inb x1 15 = true then some (M.1 53 (ix x1)) else none) else (if x2 = (2 : Int32) then (if inb x1 15 = true then some (M.1 56 (ix x1)) else none) else (if x2 = (3 : Int32) then (if inb x1 15 = true then some (M.1 59 (ix x1)) else none) else (if x2 = (4 : Int32) then (if inb x1 15 = true then some (M.1 62 (ix x1)) else none) else (if x2 = (5 : Int32) then (if inb x1 15 = true then some (M.1 65 (ix x1)) else none) else some (-1 : Int32)))))))))
set_option maxHeartbeats 4000000 in
set_option maxRecDepth 100000 in
theorem wX11_voter_0 {r : Int32} {M : Mem} (X : CX E p s m args c meth cX11_voter 3 (some .int) RX11) : ∀ {x1 : Int32} {x2 : Int32} {H : Heap} {locs : List Loc} {ls : Array Slot}, fX11_voter M x1 x2 = some r → Rl E (sh_ b) (nn b) s.heap M H locs → lv_has ls 3 [(0, .ref (eB E + 47)), (1, .int x1), (2, .int x2)] → W p l e (rm 3 0 0) s m args below meth c H locs 0 0 (MQ below (qq E (some (.int r)) (sh_ b) (nn b) M) args s 0 0 (fr E)) (F0 m 0 ls []) := by
  obtain ⟨hx, hb, hr, hml, hown, hts, hK, hN, hO, hlk, hbs⟩ := id X
  intro x1 x2 H locs ls hf hR hl
  unfold fX11_voter at hf
  refine lv_aload_n hx hb dX11_voter_0 rfl (lv_at hl 0 rfl) ?_
  refine lv_iload_n hx hb dX11_voter_1 rfl (lv_at hl 1 rfl) ?_
  obtain ⟨q2, c2, hf⟩ := br_b hf
  refine x_callV (k := 47) (As := [.int x1]) (rest := []) (st1 := [.int q2]) X hR (ctX11_isVoter c2) ml_X11_245 im_X11_isVoter se_X11_isVoter in_X11 co_X11_isVoter yo_X11_isVoter rfl kX11 (z_47 b) (rm_ok (by decide) (by decide)) rfl hl.1 rfl rfl (Nat.le_of_ble_eq_true rfl) dX11_voter_2 ⟨Nat.zero_le _, Nat.zero_le _⟩ (fun H locs hR => ?_)
  refine lv_if_ne (tgt := 10) hx hb dX11_voter_5 (by decide) (fun q5 => ?_) (fun q5 => ?_)
  · have hf := (br_if hf).2 q5
    refine lv_iload_n hx hb dX11_voter_10 rfl (lv_at hl 2 rfl) ?_
    by_cases q11_0 : x2 = (0 : Int32)
    · have hf := (br_if hf).1 q11_0
      refine x_tsw (v := 0) (tgt := 48) hx hb dX11_voter_11 q11_0 (by decide) (by decide) (off := 37) (by decide) (by decide) ?_
      refine lv_aload_n hx hb dX11_voter_48 rfl (lv_at hl 0 rfl) ?_
      refine x_get hx hb hown hts hK hR kX11 (z_47 b) (j := 6) (by decide) fl_X11_15 (v := .ref (eB E + 49)) rfl dX11_voter_49 ?_
      refine lv_iconst (v := 0) hx hb dX11_voter_52 (by decide) ?_
      refine x_aald5 hx hb hK hR (z_49 b) (by decide) (r := 50) rfl dX11_voter_53 ?_
      refine lv_iload_n hx hb dX11_voter_54 rfl (lv_at hl 1 rfl) ?_
      obtain ⟨g55, hf⟩ := br_g hf
      refine x_iald hx hb hK hR (z_50 b) g55 dX11_voter_55 ?_
      cases hf
      exact x_iret hx hb hr hlk hR dX11_voter_56
    · have hf := (br_if hf).2 q11_0
      by_cases q11_1 : x2 = (1 : Int32)
      · have hf := (br_if hf).1 q11_1
        refine x_tsw (v := 1) (tgt := 57) hx hb dX11_voter_11 q11_1 (by decide) (by decide) (off := 46) (by decide) (by decide) ?_
        refine lv_aload_n hx hb dX11_voter_57 rfl (lv_at hl 0 rfl) ?_
        refine x_get hx hb hown hts hK hR kX11 (z_47 b) (j := 7) (by decide) fl_X11_18 (v := .ref (eB E + 52)) rfl dX11_voter_58 ?_
        refine lv_iconst (v := 0) hx hb dX11_voter_61 (by decide) ?_
        refine x_aald5 hx hb hK hR (z_52 b) (by decide) (r := 53) rfl dX11_voter_62 ?_
        refine lv_iload_n hx hb dX11_voter_63 rfl (lv_at hl 1 rfl) ?_
        obtain ⟨g64, hf⟩ := br_g hf
        refine x_iald hx hb hK hR (z_53 b) g64 dX11_voter_64 ?_
        cases hf
        exact x_iret hx hb hr hlk hR dX11_voter_65
      · have hf := (br_if hf).2 q11_1
        by_cases q11_2 : x2 = (2 : Int32)
        · have hf := (br_if hf).1 q11_2
          refine x_tsw (v := 2) (tgt := 66) hx hb dX11_voter_11 q11_2 (by decide) (by decide) (off := 55) (by decide) (by decide) ?_
          refine lv_aload_n hx hb dX11_voter_66 rfl (lv_at hl 0 rfl) ?_
          refine x_get hx hb hown hts hK hR kX11 (z_47 b) (j := 8) (by decide) fl_X11_21 (v := .ref (eB E + 55)) rfl dX11_voter_67 ?_
          refine lv_iconst (v := 0) hx hb dX11_voter_70 (by decide) ?_
          refine x_aald5 hx hb hK hR (z_55 b) (by decide) (r := 56) rfl dX11_voter_71 ?_
          refine lv_iload_n hx hb dX11_voter_72 rfl (lv_at hl 1 rfl) ?_
          obtain ⟨g73, hf⟩ := br_g hf
          refine x_iald hx hb hK hR (z_56 b) g73 dX11_voter_73 ?_
          cases hf
          exact x_iret hx hb hr hlk hR dX11_voter_74
        · have hf := (br_if hf).2 q11_2
          by_cases q11_3 : x2 = (3 : Int32)
          · have hf := (br_if hf).1 q11_3
            refine x_tsw (v := 3) (tgt := 75) hx hb dX11_voter_11 q11_3 (by decide) (by decide) (off := 64) (by decide) (by decide) ?_
            refine lv_aload_n hx hb dX11_voter_75 rfl (lv_at hl 0 rfl) ?_
            refine x_get hx hb hown hts hK hR kX11 (z_47 b) (j := 9) (by decide) fl_X11_24 (v := .ref (eB E + 58)) rfl dX11_voter_76 ?_
            refine lv_iconst (v := 0) hx hb dX11_voter_79 (by decide) ?_
            refine x_aald5 hx hb hK hR (z_58 b) (by decide) (r := 59) rfl dX11_voter_80 ?_
            refine lv_iload_n hx hb dX11_voter_81 rfl (lv_at hl 1 rfl) ?_
            obtain ⟨g82, hf⟩ := br_g hf
            refine x_iald hx hb hK hR (z_59 b) g82 dX11_voter_82 ?_
            cases hf
            exact x_iret hx hb hr hlk hR dX11_voter_83
          · have hf := (br_if hf).2 q11_3
            by_cases q11_4 : x2 = (4 : Int32)
            · have hf := (br_if hf).1 q11_4
              refine x_tsw (v := 4) (tgt := 84) hx hb dX11_voter_11 q11_4 (by decide) (by decide) (off := 73) (by decide) (by decide) ?_
              refine lv_aload_n hx hb dX11_voter_84 rfl (lv_at hl 0 rfl) ?_
              refine x_get hx hb hown hts hK hR kX11 (z_47 b) (j := 10) (by decide) fl_X11_27 (v := .ref (eB E + 61)) rfl dX11_voter_85 ?_
              refine lv_iconst (v := 0) hx hb dX11_voter_88 (by decide) ?_
              refine x_aald5 hx hb hK hR (z_61 b) (by decide) (r := 62) rfl dX11_voter_89 ?_
              refine lv_iload_n hx hb dX11_voter_90 rfl (lv_at hl 1 rfl) ?_
              obtain ⟨g91, hf⟩ := br_g hf
              refine x_iald hx hb hK hR (z_62 b) g91 dX11_voter_91 ?_
              cases hf
              exact x_iret hx hb hr hlk hR dX11_voter_92
            · have hf := (br_if hf).2 q11_4
              by_cases q11_5 : x2 = (5 : Int32)
              · have hf := (br_if hf).1 q11_5
                refine x_tsw (v := 5) (tgt := 93) hx hb dX11_voter_11 q11_5 (by decide) (by decide) (off := 82) (by decide) (by decide) ?_
                refine lv_aload_n hx hb dX11_voter_93 rfl (lv_at hl 0 rfl) ?_
                refine x_get hx hb hown hts hK hR kX11 (z_47 b) (j := 11) (by decide) fl_X11_30 (v := .ref (eB E + 64)) rfl dX11_voter_94 ?_
                refine lv_iconst (v := 0) hx hb dX11_voter_97 (by decide) ?_
                refine x_aald5 hx hb hK hR (z_64 b) (by decide) (r := 65) rfl dX11_voter_98 ?_
                refine lv_iload_n hx hb dX11_voter_99 rfl (lv_at hl 1 rfl) ?_
                obtain ⟨g100, hf⟩ := br_g hf
                refine x_iald hx hb hK hR (z_65 b) g100 dX11_voter_100 ?_
                cases hf
                exact x_iret hx hb hr hlk hR dX11_voter_101
              · have hf := (br_if hf).2 q11_5
                refine lv_tableOut (tgt := 102) hx hb dX11_voter_11 (by have a0 := lv_neT q11_0 (show (0 : Int32).toInt = 0 from rfl); have a1 := lv_neT q11_1 (show (1 : Int32).toInt = 1 from rfl); have a2 := lv_neT q11_2 (show (2 : Int32).toInt = 2 from rfl); have a3 := lv_neT q11_3 (show (3 : Int32).toInt = 3 from rfl); have a4 := lv_neT q11_4 (show (4 : Int32).toInt = 4 from rfl); have a5 := lv_neT q11_5 (show (5 : Int32).toInt = 5 from rfl); omega) (by decide) ?_
                refine lv_iconst (v := -1) hx hb dX11_voter_102 (by decide) ?_
                cases hf
                exact x_iret hx hb hr hlk hR dX11_voter_103
  · have hf := (br_if hf).1 q5
    refine lv_iconst (v := -1) hx hb dX11_voter_8 (by decide) ?_
    cases hf
    exact x_iret hx hb hr hlk hR dX11_voter_9
theorem ctX11_voter {l : Launch} {E : Ge} {b : Bool} {M : Mem} {x1 : Int32} {x2 : Int32} {r : Int32} (h : fX11_voter M x1 x2 = some r) : CT l E yX11_voter cX11_voter 3 (some .int) 3 0 0 [.ref (eB E + 47), .int x1, .int x2] (some (.int r)) (sh_ b) (nn b) M (sh_ b) (nn b) M := by
  refine met_of (by decide) (Nat.le_of_ble_eq_true rfl) ?_
  intro p e s m args below meth c X _ hR ls hl
  exact wX11_voter_0 X h hR hl
def fX11_votes_26 (M : Mem) (s0 : Int32) : Option Int32 := some s0
def fX11_votes_25 (M : Mem) : Option Int32 := fX11_votes_26 M (-1 : Int32)
def fX11_votes (M : Mem) (x1 : Int32) (x2 : Int32) : Option Int32 := (fX11_isPlace M x1).bind (fun q2 => (if q2 = 0 then fX11_votes_25 M else (fX11_isPlace M x2).bind (fun q10 => (if q10 = 0 then fX11_votes_25 M else (fX11_votesOf M x1 x2).bind (fun q19 => fX11_votes_26 M q19)))))
set_option maxHeartbeats 4000000 in
set_option maxRecDepth 100000 in
theorem wX11_votes_26 {r : Int32} {M : Mem} (X : CX E p s m args c meth cX11_votes 3 (some .int) RX11) : ∀ {s0 : Int32} {H : Heap} {locs : List Loc} {ls : Array Slot}, fX11_votes_26 M s0 = some r → Rl E (sh_ b) (nn b) s.heap M H locs → lv_has ls 3 [] → W p l e (rm 6 0 0) s m args below meth c H locs 0 0 (MQ below (qq E (some (.int r)) (sh_ b) (nn b) M) args s 0 0 (fr E)) (F0 m 26 ls [.int s0]) := by
  obtain ⟨hx, hb, hr, hml, hown, hts, hK, hN, hO, hlk, hbs⟩ := id X
  intro s0 H locs ls hf hR hl
  unfold fX11_votes_26 at hf
  cases hf
  exact x_iret hx hb hr hlk hR dX11_votes_26
set_option maxHeartbeats 4000000 in
set_option maxRecDepth 100000 in
theorem wX11_votes_25 {r : Int32} {M : Mem} (X : CX E p s m args c meth cX11_votes 3 (some .int) RX11) : ∀ {H : Heap} {locs : List Loc} {ls : Array Slot}, fX11_votes_25 M = some r → Rl E (sh_ b) (nn b) s.heap M H locs → lv_has ls 3 [] → W p l e (rm 6 0 0) s m args below meth c H locs 0 0 (MQ below (qq E (some (.int r)) (sh_ b) (nn b) M) args s 0 0 (fr E)) (F0 m 25 ls []) := by
  obtain ⟨hx, hb, hr, hml, hown, hts, hK, hN, hO, hlk, hbs⟩ := id X
  intro H locs ls hf hR hl
  unfold fX11_votes_25 at hf
  refine lv_iconst (v := -1) hx hb dX11_votes_25 (by decide) ?_
  exact wX11_votes_26 X hf hR hl
set_option maxHeartbeats 4000000 in
set_option maxRecDepth 100000 in
theorem wX11_votes_0 {r : Int32} {M : Mem} (X : CX E p s m args c meth cX11_votes 3 (some .int) RX11) : ∀ {x1 : Int32} {x2 : Int32} {H : Heap} {locs : List Loc} {ls : Array Slot}, fX11_votes M x1 x2 = some r → Rl E (sh_ b) (nn b) s.heap M H locs → lv_has ls 3 [(0, .ref (eB E + 47)), (1, .int x1), (2, .int x2)] → W p l e (rm 6 0 0) s m args below meth c H locs 0 0 (MQ below (qq E (some (.int r)) (sh_ b) (nn b) M) args s 0 0 (fr E)) (F0 m 0 ls []) := by
  obtain ⟨hx, hb, hr, hml, hown, hts, hK, hN, hO, hlk, hbs⟩ := id X
  intro x1 x2 H locs ls hf hR hl
  unfold fX11_votes at hf
  refine lv_aload_n hx hb dX11_votes_0 rfl (lv_at hl 0 rfl) ?_
  refine lv_iload_n hx hb dX11_votes_1 rfl (lv_at hl 1 rfl) ?_
  obtain ⟨q2, c2, hf⟩ := br_b hf
  refine x_callV (k := 47) (As := [.int x1]) (rest := []) (st1 := [.int q2]) X hR (ctX11_isPlace c2) ml_X11_248 im_X11_isPlace se_X11_isPlace in_X11 co_X11_isPlace yo_X11_isPlace rfl kX11 (z_47 b) (rm_ok (by decide) (by decide)) rfl hl.1 rfl rfl (Nat.le_of_ble_eq_true rfl) dX11_votes_2 ⟨Nat.zero_le _, Nat.zero_le _⟩ (fun H locs hR => ?_)
  refine lv_if_eq (tgt := 25) hx hb dX11_votes_5 (by decide) (fun q5 => ?_) (fun q5 => ?_)
  · have hf := (br_if hf).1 q5
    exact wX11_votes_25 X hf hR (lv_sub hl [] rfl)
  · have hf := (br_if hf).2 q5
    refine lv_aload_n hx hb dX11_votes_8 rfl (lv_at hl 0 rfl) ?_
    refine lv_iload_n hx hb dX11_votes_9 rfl (lv_at hl 2 rfl) ?_
    obtain ⟨q10, c10, hf⟩ := br_b hf
    refine x_callV (k := 47) (As := [.int x2]) (rest := []) (st1 := [.int q10]) X hR (ctX11_isPlace c10) ml_X11_248 im_X11_isPlace se_X11_isPlace in_X11 co_X11_isPlace yo_X11_isPlace rfl kX11 (z_47 b) (rm_ok (by decide) (by decide)) rfl hl.1 rfl rfl (Nat.le_of_ble_eq_true rfl) dX11_votes_10 ⟨Nat.zero_le _, Nat.zero_le _⟩ (fun H locs hR => ?_)
    refine lv_if_eq (tgt := 25) hx hb dX11_votes_13 (by decide) (fun q13 => ?_) (fun q13 => ?_)
    · have hf := (br_if hf).1 q13
      exact wX11_votes_25 X hf hR (lv_sub hl [] rfl)
    · have hf := (br_if hf).2 q13
      refine lv_aload_n hx hb dX11_votes_16 rfl (lv_at hl 0 rfl) ?_
      refine lv_iload_n hx hb dX11_votes_17 rfl (lv_at hl 1 rfl) ?_
      refine lv_iload_n hx hb dX11_votes_18 rfl (lv_at hl 2 rfl) ?_
      obtain ⟨q19, c19, hf⟩ := br_b hf
      refine x_callV (k := 47) (As := [.int x1, .int x2]) (rest := []) (st1 := [.int q19]) X hR (ctX11_votesOf c19) ml_X11_280 im_X11_votesOf se_X11_votesOf in_X11 co_X11_votesOf yo_X11_votesOf rfl kX11 (z_47 b) (rm_ok (by decide) (by decide)) rfl hl.1 rfl rfl (Nat.le_of_ble_eq_true rfl) dX11_votes_19 ⟨Nat.zero_le _, Nat.zero_le _⟩ (fun H locs hR => ?_)
      refine lv_goto (tgt := 26) hx hb dX11_votes_22 (by decide) ?_
      exact wX11_votes_26 X hf hR (lv_sub hl [] rfl)
theorem ctX11_votes {l : Launch} {E : Ge} {b : Bool} {M : Mem} {x1 : Int32} {x2 : Int32} {r : Int32} (h : fX11_votes M x1 x2 = some r) : CT l E yX11_votes cX11_votes 3 (some .int) 6 0 0 [.ref (eB E + 47), .int x1, .int x2] (some (.int r)) (sh_ b) (nn b) M (sh_ b) (nn b) M := by
  refine met_of (by decide) (Nat.le_of_ble_eq_true rfl) ?_
  intro p e s m args below meth c X _ hR ls hl
  exact wX11_votes_0 X h hR hl
def fX11_way_27 (M : Mem) (s0 : Int32) : Option Int32 := some s0
def fX11_way_26 (M : Mem) : Option Int32 := fX11_way_27 M (-1 : Int32)
def fX11_way (M : Mem) (x1 : Int32) (x2 : Int32) (x3 : Int32) : Option Int32 := (fX11_isVoter M x1).bind (fun q2 => (if q2 = 0 then fX11_way_26 M else (fX11_isPoint M x2 x3).bind (fun q10 => (if q10 = 0 then fX11_way_26 M else (fX11_wayOf M x1 x2 x3).bind (fun q20 => fX11_way_27 M q20)))))
set_option maxHeartbeats 4000000 in
set_option maxRecDepth 100000 in
theorem wX11_way_27 {r : Int32} {M : Mem} (X : CX E p s m args c meth cX11_way 4 (some .int) RX11) : ∀ {s0 : Int32} {H : Heap} {locs : List Loc} {ls : Array Slot}, fX11_way_27 M s0 = some r → Rl E (sh_ b) (nn b) s.heap M H locs → lv_has ls 4 [] → W p l e (rm 4 0 0) s m args below meth c H locs 0 0 (MQ below (qq E (some (.int r)) (sh_ b) (nn b) M) args s 0 0 (fr E)) (F0 m 27 ls [.int s0]) := by
  obtain ⟨hx, hb, hr, hml, hown, hts, hK, hN, hO, hlk, hbs⟩ := id X
  intro s0 H locs ls hf hR hl
  unfold fX11_way_27 at hf
  cases hf
  exact x_iret hx hb hr hlk hR dX11_way_27
set_option maxHeartbeats 4000000 in
set_option maxRecDepth 100000 in
theorem wX11_way_26 {r : Int32} {M : Mem} (X : CX E p s m args c meth cX11_way 4 (some .int) RX11) : ∀ {H : Heap} {locs : List Loc} {ls : Array Slot}, fX11_way_26 M = some r → Rl E (sh_ b) (nn b) s.heap M H locs → lv_has ls 4 [] → W p l e (rm 4 0 0) s m args below meth c H locs 0 0 (MQ below (qq E (some (.int r)) (sh_ b) (nn b) M) args s 0 0 (fr E)) (F0 m 26 ls []) := by
  obtain ⟨hx, hb, hr, hml, hown, hts, hK, hN, hO, hlk, hbs⟩ := id X
  intro H locs ls hf hR hl
  unfold fX11_way_26 at hf
  refine lv_iconst (v := -1) hx hb dX11_way_26 (by decide) ?_
  exact wX11_way_27 X hf hR hl
set_option maxHeartbeats 4000000 in
set_option maxRecDepth 100000 in
theorem wX11_way_0 {r : Int32} {M : Mem} (X : CX E p s m args c meth cX11_way 4 (some .int) RX11) : ∀ {x1 : Int32} {x2 : Int32} {x3 : Int32} {H : Heap} {locs : List Loc} {ls : Array Slot}, fX11_way M x1 x2 x3 = some r → Rl E (sh_ b) (nn b) s.heap M H locs → lv_has ls 4 [(0, .ref (eB E + 47)), (1, .int x1), (2, .int x2), (3, .int x3)] → W p l e (rm 4 0 0) s m args below meth c H locs 0 0 (MQ below (qq E (some (.int r)) (sh_ b) (nn b) M) args s 0 0 (fr E)) (F0 m 0 ls []) := by
  obtain ⟨hx, hb, hr, hml, hown, hts, hK, hN, hO, hlk, hbs⟩ := id X
  intro x1 x2 x3 H locs ls hf hR hl
  unfold fX11_way at hf
  refine lv_aload_n hx hb dX11_way_0 rfl (lv_at hl 0 rfl) ?_
  refine lv_iload_n hx hb dX11_way_1 rfl (lv_at hl 1 rfl) ?_
  obtain ⟨q2, c2, hf⟩ := br_b hf
  refine x_callV (k := 47) (As := [.int x1]) (rest := []) (st1 := [.int q2]) X hR (ctX11_isVoter c2) ml_X11_245 im_X11_isVoter se_X11_isVoter in_X11 co_X11_isVoter yo_X11_isVoter rfl kX11 (z_47 b) (rm_ok (by decide) (by decide)) rfl hl.1 rfl rfl (Nat.le_of_ble_eq_true rfl) dX11_way_2 ⟨Nat.zero_le _, Nat.zero_le _⟩ (fun H locs hR => ?_)
  refine lv_if_eq (tgt := 26) hx hb dX11_way_5 (by decide) (fun q5 => ?_) (fun q5 => ?_)
  · have hf := (br_if hf).1 q5
    exact wX11_way_26 X hf hR (lv_sub hl [] rfl)
  · have hf := (br_if hf).2 q5
    refine lv_iload_n hx hb dX11_way_8 rfl (lv_at hl 2 rfl) ?_
    refine lv_iload_n hx hb dX11_way_9 rfl (lv_at hl 3 rfl) ?_
    obtain ⟨q10, c10, hf⟩ := br_b hf
    refine x_callS (As := [.int x2, .int x3]) (rest := []) (st1 := [.int q10]) X hR (ctX11_isPoint c10) ml_X11_251 st_X11_isPoint in_X11 co_X11_isPoint yo_X11_isPoint (rm_ok (by decide) (by decide)) rfl hl.1 rfl rfl (Nat.le_of_ble_eq_true rfl) dX11_way_10 ⟨Nat.zero_le _, Nat.zero_le _⟩ (fun H locs hR => ?_)
    refine lv_if_eq (tgt := 26) hx hb dX11_way_13 (by decide) (fun q13 => ?_) (fun q13 => ?_)
    · have hf := (br_if hf).1 q13
      exact wX11_way_26 X hf hR (lv_sub hl [] rfl)
    · have hf := (br_if hf).2 q13
      refine lv_aload_n hx hb dX11_way_16 rfl (lv_at hl 0 rfl) ?_
      refine lv_iload_n hx hb dX11_way_17 rfl (lv_at hl 1 rfl) ?_
      refine lv_iload_n hx hb dX11_way_18 rfl (lv_at hl 2 rfl) ?_
      refine lv_iload_n hx hb dX11_way_19 rfl (lv_at hl 3 rfl) ?_
      obtain ⟨q20, c20, hf⟩ := br_b hf
      refine x_callV (k := 47) (As := [.int x1, .int x2, .int x3]) (rest := []) (st1 := [.int q20]) X hR (ctX11_wayOf c20) ml_X11_262 im_X11_wayOf se_X11_wayOf in_X11 co_X11_wayOf yo_X11_wayOf rfl kX11 (z_47 b) (rm_ok (by decide) (by decide)) rfl hl.1 rfl rfl (Nat.le_of_ble_eq_true rfl) dX11_way_20 ⟨Nat.zero_le _, Nat.zero_le _⟩ (fun H locs hR => ?_)
      refine lv_goto (tgt := 27) hx hb dX11_way_23 (by decide) ?_
      exact wX11_way_27 X hf hR (lv_sub hl [] rfl)
theorem ctX11_way {l : Launch} {E : Ge} {b : Bool} {M : Mem} {x1 : Int32} {x2 : Int32} {x3 : Int32} {r : Int32} (h : fX11_way M x1 x2 x3 = some r) : CT l E yX11_way cX11_way 4 (some .int) 4 0 0 [.ref (eB E + 47), .int x1, .int x2, .int x3] (some (.int r)) (sh_ b) (nn b) M (sh_ b) (nn b) M := by
  refine met_of (by decide) (Nat.le_of_ble_eq_true rfl) ?_
  intro p e s m args below meth c X _ hR ls hl
  exact wX11_way_0 X h hR hl
def fX11_winSet_25 (M : Mem) : Option (Int32 × Mem) := some ((-1 : Int32), M)
def fX11_winSet_48 (s0 : Int32) (M : Mem) : Option (Int32 × Mem) := some (s0, M)
def fX11_winSet (x1 : Int32) (x2 : Int32) (x3 : Int32) (M : Mem) : Option (Int32 × Mem) := (fX11_voters M).bind (fun q1 => (if q1 = 0 then fX11_winSet_25 M else (fX11_isPoint M x1 x2).bind (fun q9 => (if q9 = 0 then fX11_winSet_25 M else (fX11_in M (x3.toInt64) (0 : Int64) (1 : Int64)).bind (fun q19 => (if q19 = 0 then fX11_winSet_25 M else (fX11_finds x1 x2 M).bind (fun q30 => (if x3 = 0 then fX11_winSet_48 ((q30.1 47 38)) q30 else fX11_winSet_48 ((q30.1 47 37)) q30))))))))
set_option maxHeartbeats 4000000 in
set_option maxRecDepth 100000 in
theorem wX11_winSet_25 {r : Int32} {M1 : Mem} (X : CX E p s m args c meth cX11_winSet 4 (some .int) RX11) : ∀ {M : Mem} {H : Heap} {locs : List Loc} {ls : Array Slot}, fX11_winSet_25 M = some (r, M1) → Rl E (sh_ b) (nn b) s.heap M H locs → lv_has ls 4 [] → W p l e (rm 7 0 0) s m args below meth c H locs 0 0 (MQ below (qq E (some (.int r)) (sh_ b) (nn b) M1) args s 0 0 (fr E)) (F0 m 25 ls []) := by
  obtain ⟨hx, hb, hr, hml, hown, hts, hK, hN, hO, hlk, hbs⟩ := id X
  intro M H locs ls hf hR hl
  unfold fX11_winSet_25 at hf
  refine lv_iconst (v := -1) hx hb dX11_winSet_25 (by decide) ?_
  cases hf
  exact x_iret hx hb hr hlk hR dX11_winSet_26
set_option maxHeartbeats 4000000 in
set_option maxRecDepth 100000 in
theorem wX11_winSet_48 {r : Int32} {M1 : Mem} (X : CX E p s m args c meth cX11_winSet 4 (some .int) RX11) : ∀ {s0 : Int32} {M : Mem} {H : Heap} {locs : List Loc} {ls : Array Slot}, fX11_winSet_48 s0 M = some (r, M1) → Rl E (sh_ b) (nn b) s.heap M H locs → lv_has ls 4 [] → W p l e (rm 7 0 0) s m args below meth c H locs 0 0 (MQ below (qq E (some (.int r)) (sh_ b) (nn b) M1) args s 0 0 (fr E)) (F0 m 48 ls [.int s0]) := by
  obtain ⟨hx, hb, hr, hml, hown, hts, hK, hN, hO, hlk, hbs⟩ := id X
  intro s0 M H locs ls hf hR hl
  unfold fX11_winSet_48 at hf
  cases hf
  exact x_iret hx hb hr hlk hR dX11_winSet_48
set_option maxHeartbeats 4000000 in
set_option maxRecDepth 100000 in
theorem wX11_winSet_0 {r : Int32} {M1 : Mem} (X : CX E p s m args c meth cX11_winSet 4 (some .int) RX11) : ∀ {x1 : Int32} {x2 : Int32} {x3 : Int32} {M : Mem} {H : Heap} {locs : List Loc} {ls : Array Slot}, fX11_winSet x1 x2 x3 M = some (r, M1) → Rl E (sh_ b) (nn b) s.heap M H locs → lv_has ls 4 [(0, .ref (eB E + 47)), (1, .int x1), (2, .int x2), (3, .int x3)] → W p l e (rm 7 0 0) s m args below meth c H locs 0 0 (MQ below (qq E (some (.int r)) (sh_ b) (nn b) M1) args s 0 0 (fr E)) (F0 m 0 ls []) := by
  obtain ⟨hx, hb, hr, hml, hown, hts, hK, hN, hO, hlk, hbs⟩ := id X
  intro x1 x2 x3 M H locs ls hf hR hl
  unfold fX11_winSet at hf
  refine lv_aload_n hx hb dX11_winSet_0 rfl (lv_at hl 0 rfl) ?_
  obtain ⟨q1, c1, hf⟩ := br_b hf
  refine x_callV (k := 47) (As := []) (rest := []) (st1 := [.int q1]) X hR (ctX11_voters c1) ml_X11_237 im_X11_voters se_X11_voters in_X11 co_X11_voters yo_X11_voters rfl kX11 (z_47 b) (rm_ok (by decide) (by decide)) rfl hl.1 rfl rfl (Nat.le_of_ble_eq_true rfl) dX11_winSet_1 ⟨Nat.zero_le _, Nat.zero_le _⟩ (fun H locs hR => ?_)
  refine lv_if_eq (tgt := 25) hx hb dX11_winSet_4 (by decide) (fun q4 => ?_) (fun q4 => ?_)
  · have hf := (br_if hf).1 q4
    exact wX11_winSet_25 X hf hR (lv_sub hl [] rfl)
  · have hf := (br_if hf).2 q4
    refine lv_iload_n hx hb dX11_winSet_7 rfl (lv_at hl 1 rfl) ?_
    refine lv_iload_n hx hb dX11_winSet_8 rfl (lv_at hl 2 rfl) ?_
    obtain ⟨q9, c9, hf⟩ := br_b hf
    refine x_callS (As := [.int x1, .int x2]) (rest := []) (st1 := [.int q9]) X hR (ctX11_isPoint c9) ml_X11_251 st_X11_isPoint in_X11 co_X11_isPoint yo_X11_isPoint (rm_ok (by decide) (by decide)) rfl hl.1 rfl rfl (Nat.le_of_ble_eq_true rfl) dX11_winSet_9 ⟨Nat.zero_le _, Nat.zero_le _⟩ (fun H locs hR => ?_)
    refine lv_if_eq (tgt := 25) hx hb dX11_winSet_12 (by decide) (fun q12 => ?_) (fun q12 => ?_)
    · have hf := (br_if hf).1 q12
      exact wX11_winSet_25 X hf hR (lv_sub hl [] rfl)
    · have hf := (br_if hf).2 q12
      refine lv_iload_n hx hb dX11_winSet_15 rfl (lv_at hl 3 rfl) ?_
      refine lv_i2l (v := x3.toInt64) hx hb dX11_winSet_16 rfl ?_
      refine lv_lconst (v := 0) hx hb dX11_winSet_17 (by decide) ?_
      refine lv_lconst (v := 1) hx hb dX11_winSet_18 (by decide) ?_
      obtain ⟨q19, c19, hf⟩ := br_b hf
      refine x_callS (As := [.long x3.toInt64, .long (0 : Int64), .long (1 : Int64)]) (rest := []) (st1 := [.int q19]) X hR (ctX11_in c19) ml_X11_122 st_X11_in in_X11 co_X11_in yo_X11_in (rm_ok (by decide) (by decide)) rfl hl.1 rfl rfl (Nat.le_of_ble_eq_true rfl) dX11_winSet_19 ⟨Nat.zero_le _, Nat.zero_le _⟩ (fun H locs hR => ?_)
      refine lv_if_ne (tgt := 27) hx hb dX11_winSet_22 (by decide) (fun q22 => ?_) (fun q22 => ?_)
      · have hf := (br_if hf).2 q22
        refine lv_aload_n hx hb dX11_winSet_27 rfl (lv_at hl 0 rfl) ?_
        refine lv_iload_n hx hb dX11_winSet_28 rfl (lv_at hl 1 rfl) ?_
        refine lv_iload_n hx hb dX11_winSet_29 rfl (lv_at hl 2 rfl) ?_
        obtain ⟨q30, c30, hf⟩ := br_b hf
        refine x_callV (k := 47) (As := [.int x1, .int x2]) (rest := []) (st1 := []) X hR (ctX11_finds c30) ml_X11_357 im_X11_finds se_X11_finds in_X11 co_X11_finds yo_X11_finds rfl kX11 (z_47 b) (rm_ok (by decide) (by decide)) rfl hl.1 rfl rfl (Nat.le_of_ble_eq_true rfl) dX11_winSet_30 ⟨Nat.zero_le _, Nat.zero_le _⟩ (fun H locs hR => ?_)
        refine lv_iload_n hx hb dX11_winSet_33 rfl (lv_at hl 3 rfl) ?_
        refine lv_if_ne (tgt := 44) hx hb dX11_winSet_34 (by decide) (fun q34 => ?_) (fun q34 => ?_)
        · have hf := (br_if hf).2 q34
          refine lv_aload_n hx hb dX11_winSet_44 rfl (lv_at hl 0 rfl) ?_
          refine x_get hx hb hown hts hK hR kX11 (z_47 b) (j := 37) (by decide) fl_X11_351 (v := .int (q30.1 47 37)) rfl dX11_winSet_45 ?_
          exact wX11_winSet_48 X hf hR (lv_sub hl [] rfl)
        · have hf := (br_if hf).1 q34
          refine lv_aload_n hx hb dX11_winSet_37 rfl (lv_at hl 0 rfl) ?_
          refine x_get hx hb hown hts hK hR kX11 (z_47 b) (j := 38) (by decide) fl_X11_348 (v := .int (q30.1 47 38)) rfl dX11_winSet_38 ?_
          refine lv_goto (tgt := 48) hx hb dX11_winSet_41 (by decide) ?_
          exact wX11_winSet_48 X hf hR (lv_sub hl [] rfl)
      · have hf := (br_if hf).1 q22
        exact wX11_winSet_25 X hf hR (lv_sub hl [] rfl)
theorem ctX11_winSet {l : Launch} {E : Ge} {b : Bool} {M : Mem} {x1 : Int32} {x2 : Int32} {x3 : Int32} {r : Int32} {M1 : Mem} (h : fX11_winSet x1 x2 x3 M = some (r, M1)) : CT l E yX11_winSet cX11_winSet 4 (some .int) 7 0 0 [.ref (eB E + 47), .int x1, .int x2, .int x3] (some (.int r)) (sh_ b) (nn b) M (sh_ b) (nn b) M1 := by
  refine met_of (by decide) (Nat.le_of_ble_eq_true rfl) ?_
  intro p e s m args below meth c X _ hR ls hl
  exact wX11_winSet_0 X h hR hl
def fX11_wins_31 (M : Mem) : Option Int32 := some (0 : Int32)
def fX11_wins (M : Mem) (x1 : Int32) (x2 : Int32) : Option Int32 := (fX11_voters M).bind (fun q1 => (if q1 = 0 then fX11_wins_31 M else (fX11_in M (x1.toInt64) (0 : Int64) (9999 : Int64)).bind (fun q13 => (if q13 = 0 then fX11_wins_31 M else (fX11_in M (x2.toInt64) (0 : Int64) (9999 : Int64)).bind (fun q25 => (if q25 = 0 then fX11_wins_31 M else (fX11_beatsAt M (x1 / (100 : Int32)) (irm x1 (100 : Int32)) (x2 / (100 : Int32)) (irm x2 (100 : Int32))).bind (fun q50 => some (q50 &&& 1))))))))
set_option maxHeartbeats 4000000 in
set_option maxRecDepth 100000 in
theorem wX11_wins_31 {r : Int32} {M : Mem} (X : CX E p s m args c meth cX11_wins 3 (some .boolean) RX11) : ∀ {H : Heap} {locs : List Loc} {ls : Array Slot}, fX11_wins_31 M = some r → Rl E (sh_ b) (nn b) s.heap M H locs → lv_has ls 3 [] → W p l e (rm 6 0 0) s m args below meth c H locs 0 0 (MQ below (qq E (some (.int r)) (sh_ b) (nn b) M) args s 0 0 (fr E)) (F0 m 31 ls []) := by
  obtain ⟨hx, hb, hr, hml, hown, hts, hK, hN, hO, hlk, hbs⟩ := id X
  intro H locs ls hf hR hl
  unfold fX11_wins_31 at hf
  refine lv_iconst (v := 0) hx hb dX11_wins_31 (by decide) ?_
  cases hf
  exact x_zret hx hb hr hlk hR (by decide) dX11_wins_32
set_option maxHeartbeats 4000000 in
set_option maxRecDepth 100000 in
theorem wX11_wins_0 {r : Int32} {M : Mem} (X : CX E p s m args c meth cX11_wins 3 (some .boolean) RX11) : ∀ {x1 : Int32} {x2 : Int32} {H : Heap} {locs : List Loc} {ls : Array Slot}, fX11_wins M x1 x2 = some r → Rl E (sh_ b) (nn b) s.heap M H locs → lv_has ls 3 [(0, .ref (eB E + 47)), (1, .int x1), (2, .int x2)] → W p l e (rm 6 0 0) s m args below meth c H locs 0 0 (MQ below (qq E (some (.int r)) (sh_ b) (nn b) M) args s 0 0 (fr E)) (F0 m 0 ls []) := by
  obtain ⟨hx, hb, hr, hml, hown, hts, hK, hN, hO, hlk, hbs⟩ := id X
  intro x1 x2 H locs ls hf hR hl
  unfold fX11_wins at hf
  refine lv_aload_n hx hb dX11_wins_0 rfl (lv_at hl 0 rfl) ?_
  obtain ⟨q1, c1, hf⟩ := br_b hf
  refine x_callV (k := 47) (As := []) (rest := []) (st1 := [.int q1]) X hR (ctX11_voters c1) ml_X11_237 im_X11_voters se_X11_voters in_X11 co_X11_voters yo_X11_voters rfl kX11 (z_47 b) (rm_ok (by decide) (by decide)) rfl hl.1 rfl rfl (Nat.le_of_ble_eq_true rfl) dX11_wins_1 ⟨Nat.zero_le _, Nat.zero_le _⟩ (fun H locs hR => ?_)
  refine lv_if_eq (tgt := 31) hx hb dX11_wins_4 (by decide) (fun q4 => ?_) (fun q4 => ?_)
  · have hf := (br_if hf).1 q4
    exact wX11_wins_31 X hf hR (lv_sub hl [] rfl)
  · have hf := (br_if hf).2 q4
    refine lv_iload_n hx hb dX11_wins_7 rfl (lv_at hl 1 rfl) ?_
    refine lv_i2l (v := x1.toInt64) hx hb dX11_wins_8 rfl ?_
    refine lv_lconst (v := 0) hx hb dX11_wins_9 (by decide) ?_
    refine lv_ldc2 hx hb hown (hts _ kl_X11_286) dX11_wins_10 ?_
    obtain ⟨q13, c13, hf⟩ := br_b hf
    refine x_callS (As := [.long x1.toInt64, .long (0 : Int64), .long (9999 : Int64)]) (rest := []) (st1 := [.int q13]) X hR (ctX11_in c13) ml_X11_122 st_X11_in in_X11 co_X11_in yo_X11_in (rm_ok (by decide) (by decide)) rfl hl.1 rfl rfl (Nat.le_of_ble_eq_true rfl) dX11_wins_13 ⟨Nat.zero_le _, Nat.zero_le _⟩ (fun H locs hR => ?_)
    refine lv_if_eq (tgt := 31) hx hb dX11_wins_16 (by decide) (fun q16 => ?_) (fun q16 => ?_)
    · have hf := (br_if hf).1 q16
      exact wX11_wins_31 X hf hR (lv_sub hl [] rfl)
    · have hf := (br_if hf).2 q16
      refine lv_iload_n hx hb dX11_wins_19 rfl (lv_at hl 2 rfl) ?_
      refine lv_i2l (v := x2.toInt64) hx hb dX11_wins_20 rfl ?_
      refine lv_lconst (v := 0) hx hb dX11_wins_21 (by decide) ?_
      refine lv_ldc2 hx hb hown (hts _ kl_X11_286) dX11_wins_22 ?_
      obtain ⟨q25, c25, hf⟩ := br_b hf
      refine x_callS (As := [.long x2.toInt64, .long (0 : Int64), .long (9999 : Int64)]) (rest := []) (st1 := [.int q25]) X hR (ctX11_in c25) ml_X11_122 st_X11_in in_X11 co_X11_in yo_X11_in (rm_ok (by decide) (by decide)) rfl hl.1 rfl rfl (Nat.le_of_ble_eq_true rfl) dX11_wins_25 ⟨Nat.zero_le _, Nat.zero_le _⟩ (fun H locs hR => ?_)
      refine lv_if_ne (tgt := 33) hx hb dX11_wins_28 (by decide) (fun q28 => ?_) (fun q28 => ?_)
      · have hf := (br_if hf).2 q28
        refine lv_aload_n hx hb dX11_wins_33 rfl (lv_at hl 0 rfl) ?_
        refine lv_iload_n hx hb dX11_wins_34 rfl (lv_at hl 1 rfl) ?_
        refine lv_bipush (v := 100) hx hb dX11_wins_35 (by decide) ?_
        refine lv_idiv hx hb dX11_wins_37 (by decide) ?_
        refine lv_iload_n hx hb dX11_wins_38 rfl (lv_at hl 1 rfl) ?_
        refine lv_bipush (v := 100) hx hb dX11_wins_39 (by decide) ?_
        refine lv_irem hx hb dX11_wins_41 (by decide) ?_
        refine W.eq (g2 := F0 m 42 ls [.int (irm x1 (100 : Int32)), .int (x1 / (100 : Int32)), .ref (eB E + 47)]) rfl ?_
        refine lv_iload_n hx hb dX11_wins_42 rfl (lv_at hl 2 rfl) ?_
        refine lv_bipush (v := 100) hx hb dX11_wins_43 (by decide) ?_
        refine lv_idiv hx hb dX11_wins_45 (by decide) ?_
        refine lv_iload_n hx hb dX11_wins_46 rfl (lv_at hl 2 rfl) ?_
        refine lv_bipush (v := 100) hx hb dX11_wins_47 (by decide) ?_
        refine lv_irem hx hb dX11_wins_49 (by decide) ?_
        refine W.eq (g2 := F0 m 50 ls [.int (irm x2 (100 : Int32)), .int (x2 / (100 : Int32)), .int (irm x1 (100 : Int32)), .int (x1 / (100 : Int32)), .ref (eB E + 47)]) rfl ?_
        obtain ⟨q50, c50, hf⟩ := br_b hf
        refine x_callV (k := 47) (As := [.int (x1 / (100 : Int32)), .int (irm x1 (100 : Int32)), .int (x2 / (100 : Int32)), .int (irm x2 (100 : Int32))]) (rest := []) (st1 := [.int q50]) X hR (ctX11_beatsAt c50) ml_X11_276 im_X11_beatsAt se_X11_beatsAt in_X11 co_X11_beatsAt yo_X11_beatsAt rfl kX11 (z_47 b) (rm_ok (by decide) (by decide)) rfl hl.1 rfl rfl (Nat.le_of_ble_eq_true rfl) dX11_wins_50 ⟨Nat.zero_le _, Nat.zero_le _⟩ (fun H locs hR => ?_)
        cases hf
        exact x_zret hx hb hr hlk hR rfl dX11_wins_53
      · have hf := (br_if hf).1 q28
        exact wX11_wins_31 X hf hR (lv_sub hl [] rfl)
theorem ctX11_wins {l : Launch} {E : Ge} {b : Bool} {M : Mem} {x1 : Int32} {x2 : Int32} {r : Int32} (h : fX11_wins M x1 x2 = some r) : CT l E yX11_wins cX11_wins 3 (some .boolean) 6 0 0 [.ref (eB E + 47), .int x1, .int x2] (some (.int r)) (sh_ b) (nn b) M (sh_ b) (nn b) M := by
  refine met_of (by decide) (Nat.le_of_ble_eq_true rfl) ?_
  intro p e s m args below meth c X _ hR ls hl
  exact wX11_wins_0 X h hR hl
end WK
