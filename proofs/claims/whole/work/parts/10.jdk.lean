section WK
variable {p : Program} {l : Launch} {e : Env} {s : State} {m : MethodId} {args : Array Value} {below : List Frame} {meth : Method} {c : Code} {E : Ge} {b : Bool}
def fJ6_compare_7cf53_19 (M : Mem) (s0 : Int32) : Option Int32 := some s0
def fJ6_compare_7cf53 (M : Mem) (x0 : Int32) (x1 : Int32) : Option Int32 := (if x1 ≤ x0 then (if x0 = x1 then fJ6_compare_7cf53_19 M (0 : Int32) else fJ6_compare_7cf53_19 M (1 : Int32)) else fJ6_compare_7cf53_19 M (-1 : Int32))
set_option maxHeartbeats 4000000 in
set_option maxRecDepth 100000 in
theorem wJ6_compare_7cf53_19 {r : Int32} {M : Mem} (X : CX E p s m args c meth cJ6_compare_7cf53 2 (some .int) RJ6) : ∀ {s0 : Int32} {H : Heap} {locs : List Loc} {ls : Array Slot}, fJ6_compare_7cf53_19 M s0 = some r → Rl E (sh_ b) (nn b) s.heap M H locs → lv_has ls 2 [] → W p l e (rm 1 0 0) s m args below meth c H locs 0 0 (MQ below (qq E (some (.int r)) (sh_ b) (nn b) M) args s 0 0 (fr E)) (F0 m 19 ls [.int s0]) := by
  obtain ⟨hx, hb, hr, hml, hown, hts, hK, hN, hO, hlk, hbs⟩ := id X
  intro s0 H locs ls hf hR hl
  unfold fJ6_compare_7cf53_19 at hf
  cases hf
  exact x_iret hx hb hr hlk hR dJ6_compare_7cf53_19
set_option maxHeartbeats 4000000 in
set_option maxRecDepth 100000 in
theorem wJ6_compare_7cf53_0 {r : Int32} {M : Mem} (X : CX E p s m args c meth cJ6_compare_7cf53 2 (some .int) RJ6) : ∀ {x0 : Int32} {x1 : Int32} {H : Heap} {locs : List Loc} {ls : Array Slot}, fJ6_compare_7cf53 M x0 x1 = some r → Rl E (sh_ b) (nn b) s.heap M H locs → lv_has ls 2 [(0, .int x0), (1, .int x1)] → W p l e (rm 1 0 0) s m args below meth c H locs 0 0 (MQ below (qq E (some (.int r)) (sh_ b) (nn b) M) args s 0 0 (fr E)) (F0 m 0 ls []) := by
  obtain ⟨hx, hb, hr, hml, hown, hts, hK, hN, hO, hlk, hbs⟩ := id X
  intro x0 x1 H locs ls hf hR hl
  unfold fJ6_compare_7cf53 at hf
  refine lv_iload_n hx hb dJ6_compare_7cf53_0 rfl (lv_at hl 0 rfl) ?_
  refine lv_iload_n hx hb dJ6_compare_7cf53_1 rfl (lv_at hl 1 rfl) ?_
  refine lv_icmp_ge (tgt := 9) hx hb dJ6_compare_7cf53_2 (by decide) (fun q2 => ?_) (fun q2 => ?_)
  · have hf := (br_if hf).1 q2
    refine lv_iload_n hx hb dJ6_compare_7cf53_9 rfl (lv_at hl 0 rfl) ?_
    refine lv_iload_n hx hb dJ6_compare_7cf53_10 rfl (lv_at hl 1 rfl) ?_
    refine lv_icmp_ne (tgt := 18) hx hb dJ6_compare_7cf53_11 (by decide) (fun q11 => ?_) (fun q11 => ?_)
    · have hf := (br_if hf).2 q11
      refine lv_iconst (v := 1) hx hb dJ6_compare_7cf53_18 (by decide) ?_
      exact wJ6_compare_7cf53_19 X hf hR (lv_sub hl [] rfl)
    · have hf := (br_if hf).1 q11
      refine lv_iconst (v := 0) hx hb dJ6_compare_7cf53_14 (by decide) ?_
      refine lv_goto (tgt := 19) hx hb dJ6_compare_7cf53_15 (by decide) ?_
      exact wJ6_compare_7cf53_19 X hf hR (lv_sub hl [] rfl)
  · have hf := (br_if hf).2 q2
    refine lv_iconst (v := -1) hx hb dJ6_compare_7cf53_5 (by decide) ?_
    refine lv_goto (tgt := 19) hx hb dJ6_compare_7cf53_6 (by decide) ?_
    exact wJ6_compare_7cf53_19 X hf hR (lv_sub hl [] rfl)
theorem ctJ6_compare_7cf53 {l : Launch} {E : Ge} {b : Bool} {M : Mem} {x0 : Int32} {x1 : Int32} {r : Int32} (h : fJ6_compare_7cf53 M x0 x1 = some r) : CT l E yJ6_compare_7cf53 cJ6_compare_7cf53 2 (some .int) 1 0 0 [.int x0, .int x1] (some (.int r)) (sh_ b) (nn b) M (sh_ b) (nn b) M := by
  refine met_of (by decide) (Nat.le_of_ble_eq_true rfl) ?_
  intro p e s m args below meth c X _ hR ls hl
  exact wJ6_compare_7cf53_0 X h hR hl
def fJ6_numberOfTrailingZeros_0f7a4_74 (M : Mem) (x0 : Int32) (x1 : Int32) : Option Int32 := some (x1 + (ush x0 (1 : Int32)))
def fJ6_numberOfTrailingZeros_0f7a4_62 (M : Mem) (x0 : Int32) (x1 : Int32) : Option Int32 := (if x0 ≤ (4 : Int32) then fJ6_numberOfTrailingZeros_0f7a4_74 M x0 x1 else nx (x1 + (2 : Int32)) (fun v67 => nx (ush x0 (2 : Int32)) (fun v73 => fJ6_numberOfTrailingZeros_0f7a4_74 M v73 v67)))
def fJ6_numberOfTrailingZeros_0f7a4_49 (M : Mem) (x0 : Int32) (x1 : Int32) : Option Int32 := (if x0 ≤ (16 : Int32) then fJ6_numberOfTrailingZeros_0f7a4_62 M x0 x1 else nx (x1 + (4 : Int32)) (fun v55 => nx (ush x0 (4 : Int32)) (fun v61 => fJ6_numberOfTrailingZeros_0f7a4_62 M v61 v55)))
def fJ6_numberOfTrailingZeros_0f7a4_34 (M : Mem) (x0 : Int32) (x1 : Int32) : Option Int32 := (if x0 ≤ (256 : Int32) then fJ6_numberOfTrailingZeros_0f7a4_49 M x0 x1 else nx (x1 + (8 : Int32)) (fun v41 => nx (ush x0 (8 : Int32)) (fun v48 => fJ6_numberOfTrailingZeros_0f7a4_49 M v48 v41)))
def fJ6_numberOfTrailingZeros_0f7a4 (M : Mem) (x0 : Int32) : Option Int32 := nx ((x0 ^^^ (-1 : Int32)) &&& (x0 - (1 : Int32))) (fun v7 => (if 0 < v7 then (if v7 ≤ (65536 : Int32) then fJ6_numberOfTrailingZeros_0f7a4_34 M v7 (1 : Int32) else nx ((1 : Int32) + (16 : Int32)) (fun v26 => nx (ush v7 (16 : Int32)) (fun v33 => fJ6_numberOfTrailingZeros_0f7a4_34 M v33 v26))) else some (v7 &&& (32 : Int32))))
set_option maxHeartbeats 4000000 in
set_option maxRecDepth 100000 in
theorem wJ6_numberOfTrailingZeros_0f7a4_74 {r : Int32} {M : Mem} (X : CX E p s m args c meth cJ6_numberOfTrailingZeros_0f7a4 2 (some .int) RJ6) : ∀ {x0 : Int32} {x1 : Int32} {H : Heap} {locs : List Loc} {ls : Array Slot}, fJ6_numberOfTrailingZeros_0f7a4_74 M x0 x1 = some r → Rl E (sh_ b) (nn b) s.heap M H locs → lv_has ls 2 [(0, .int x0), (1, .int x1)] → W p l e (rm 1 0 0) s m args below meth c H locs 0 0 (MQ below (qq E (some (.int r)) (sh_ b) (nn b) M) args s 0 0 (fr E)) (F0 m 74 ls []) := by
  obtain ⟨hx, hb, hr, hml, hown, hts, hK, hN, hO, hlk, hbs⟩ := id X
  intro x0 x1 H locs ls hf hR hl
  unfold fJ6_numberOfTrailingZeros_0f7a4_74 at hf
  refine lv_iload_n hx hb dJ6_numberOfTrailingZeros_0f7a4_74 rfl (lv_at hl 1 rfl) ?_
  refine lv_iload_n hx hb dJ6_numberOfTrailingZeros_0f7a4_75 rfl (lv_at hl 0 rfl) ?_
  refine lv_iconst (v := 1) hx hb dJ6_numberOfTrailingZeros_0f7a4_76 (by decide) ?_
  refine lv_iushr (v := (ush x0 (1 : Int32))) hx hb dJ6_numberOfTrailingZeros_0f7a4_77 rfl ?_
  refine lv_iadd hx hb dJ6_numberOfTrailingZeros_0f7a4_78 ?_
  cases hf
  exact x_iret hx hb hr hlk hR dJ6_numberOfTrailingZeros_0f7a4_79
set_option maxHeartbeats 4000000 in
set_option maxRecDepth 100000 in
theorem wJ6_numberOfTrailingZeros_0f7a4_62 {r : Int32} {M : Mem} (X : CX E p s m args c meth cJ6_numberOfTrailingZeros_0f7a4 2 (some .int) RJ6) : ∀ {x0 : Int32} {x1 : Int32} {H : Heap} {locs : List Loc} {ls : Array Slot}, fJ6_numberOfTrailingZeros_0f7a4_62 M x0 x1 = some r → Rl E (sh_ b) (nn b) s.heap M H locs → lv_has ls 2 [(0, .int x0), (1, .int x1)] → W p l e (rm 1 0 0) s m args below meth c H locs 0 0 (MQ below (qq E (some (.int r)) (sh_ b) (nn b) M) args s 0 0 (fr E)) (F0 m 62 ls []) := by
  obtain ⟨hx, hb, hr, hml, hown, hts, hK, hN, hO, hlk, hbs⟩ := id X
  intro x0 x1 H locs ls hf hR hl
  unfold fJ6_numberOfTrailingZeros_0f7a4_62 at hf
  refine lv_iload_n hx hb dJ6_numberOfTrailingZeros_0f7a4_62 rfl (lv_at hl 0 rfl) ?_
  refine lv_iconst (v := 4) hx hb dJ6_numberOfTrailingZeros_0f7a4_63 (by decide) ?_
  refine lv_icmp_le (tgt := 74) hx hb dJ6_numberOfTrailingZeros_0f7a4_64 (by decide) (fun q64 => ?_) (fun q64 => ?_)
  · have hf := (br_if hf).1 q64
    exact wJ6_numberOfTrailingZeros_0f7a4_74 X hf hR hl
  · have hf := (br_if hf).2 q64
    obtain ⟨v67, e67⟩ : ∃ y : Int32, y = (x1 + (2 : Int32)) := ⟨_, rfl⟩
    have hf := nx_at e67 hf
    refine lv_iinc (v := v67) (lv' := [(1, .int v67), (0, .int x0)]) hx hb dJ6_numberOfTrailingZeros_0f7a4_67 hl (k := 1) rfl (by rw [e67]; rfl) (by decide) rfl (fun ls hl => ?_)
    refine lv_iload_n hx hb dJ6_numberOfTrailingZeros_0f7a4_70 rfl (lv_at hl 1 rfl) ?_
    refine lv_iconst (v := 2) hx hb dJ6_numberOfTrailingZeros_0f7a4_71 (by decide) ?_
    refine lv_iushr (v := (ush x0 (2 : Int32))) hx hb dJ6_numberOfTrailingZeros_0f7a4_72 rfl ?_
    refine lv_topi (fun v73 e73 => ?_)
    have hf := nx_at e73 hf
    refine lv_istore_n (lv' := [(0, .int v73), (1, .int v67)]) hx hb dJ6_numberOfTrailingZeros_0f7a4_73 rfl hl (by decide) rfl (fun ls hl => ?_)
    exact wJ6_numberOfTrailingZeros_0f7a4_74 X hf hR hl
set_option maxHeartbeats 4000000 in
set_option maxRecDepth 100000 in
theorem wJ6_numberOfTrailingZeros_0f7a4_49 {r : Int32} {M : Mem} (X : CX E p s m args c meth cJ6_numberOfTrailingZeros_0f7a4 2 (some .int) RJ6) : ∀ {x0 : Int32} {x1 : Int32} {H : Heap} {locs : List Loc} {ls : Array Slot}, fJ6_numberOfTrailingZeros_0f7a4_49 M x0 x1 = some r → Rl E (sh_ b) (nn b) s.heap M H locs → lv_has ls 2 [(0, .int x0), (1, .int x1)] → W p l e (rm 1 0 0) s m args below meth c H locs 0 0 (MQ below (qq E (some (.int r)) (sh_ b) (nn b) M) args s 0 0 (fr E)) (F0 m 49 ls []) := by
  obtain ⟨hx, hb, hr, hml, hown, hts, hK, hN, hO, hlk, hbs⟩ := id X
  intro x0 x1 H locs ls hf hR hl
  unfold fJ6_numberOfTrailingZeros_0f7a4_49 at hf
  refine lv_iload_n hx hb dJ6_numberOfTrailingZeros_0f7a4_49 rfl (lv_at hl 0 rfl) ?_
  refine lv_bipush (v := 16) hx hb dJ6_numberOfTrailingZeros_0f7a4_50 (by decide) ?_
  refine lv_icmp_le (tgt := 62) hx hb dJ6_numberOfTrailingZeros_0f7a4_52 (by decide) (fun q52 => ?_) (fun q52 => ?_)
  · have hf := (br_if hf).1 q52
    exact wJ6_numberOfTrailingZeros_0f7a4_62 X hf hR hl
  · have hf := (br_if hf).2 q52
    obtain ⟨v55, e55⟩ : ∃ y : Int32, y = (x1 + (4 : Int32)) := ⟨_, rfl⟩
    have hf := nx_at e55 hf
    refine lv_iinc (v := v55) (lv' := [(1, .int v55), (0, .int x0)]) hx hb dJ6_numberOfTrailingZeros_0f7a4_55 hl (k := 1) rfl (by rw [e55]; rfl) (by decide) rfl (fun ls hl => ?_)
    refine lv_iload_n hx hb dJ6_numberOfTrailingZeros_0f7a4_58 rfl (lv_at hl 1 rfl) ?_
    refine lv_iconst (v := 4) hx hb dJ6_numberOfTrailingZeros_0f7a4_59 (by decide) ?_
    refine lv_iushr (v := (ush x0 (4 : Int32))) hx hb dJ6_numberOfTrailingZeros_0f7a4_60 rfl ?_
    refine lv_topi (fun v61 e61 => ?_)
    have hf := nx_at e61 hf
    refine lv_istore_n (lv' := [(0, .int v61), (1, .int v55)]) hx hb dJ6_numberOfTrailingZeros_0f7a4_61 rfl hl (by decide) rfl (fun ls hl => ?_)
    exact wJ6_numberOfTrailingZeros_0f7a4_62 X hf hR hl
set_option maxHeartbeats 4000000 in
set_option maxRecDepth 100000 in
theorem wJ6_numberOfTrailingZeros_0f7a4_34 {r : Int32} {M : Mem} (X : CX E p s m args c meth cJ6_numberOfTrailingZeros_0f7a4 2 (some .int) RJ6) : ∀ {x0 : Int32} {x1 : Int32} {H : Heap} {locs : List Loc} {ls : Array Slot}, fJ6_numberOfTrailingZeros_0f7a4_34 M x0 x1 = some r → Rl E (sh_ b) (nn b) s.heap M H locs → lv_has ls 2 [(0, .int x0), (1, .int x1)] → W p l e (rm 1 0 0) s m args below meth c H locs 0 0 (MQ below (qq E (some (.int r)) (sh_ b) (nn b) M) args s 0 0 (fr E)) (F0 m 34 ls []) := by
  obtain ⟨hx, hb, hr, hml, hown, hts, hK, hN, hO, hlk, hbs⟩ := id X
  intro x0 x1 H locs ls hf hR hl
  unfold fJ6_numberOfTrailingZeros_0f7a4_34 at hf
  refine lv_iload_n hx hb dJ6_numberOfTrailingZeros_0f7a4_34 rfl (lv_at hl 0 rfl) ?_
  refine lv_sipush (v := 256) hx hb dJ6_numberOfTrailingZeros_0f7a4_35 (by decide) ?_
  refine lv_icmp_le (tgt := 49) hx hb dJ6_numberOfTrailingZeros_0f7a4_38 (by decide) (fun q38 => ?_) (fun q38 => ?_)
  · have hf := (br_if hf).1 q38
    exact wJ6_numberOfTrailingZeros_0f7a4_49 X hf hR hl
  · have hf := (br_if hf).2 q38
    obtain ⟨v41, e41⟩ : ∃ y : Int32, y = (x1 + (8 : Int32)) := ⟨_, rfl⟩
    have hf := nx_at e41 hf
    refine lv_iinc (v := v41) (lv' := [(1, .int v41), (0, .int x0)]) hx hb dJ6_numberOfTrailingZeros_0f7a4_41 hl (k := 1) rfl (by rw [e41]; rfl) (by decide) rfl (fun ls hl => ?_)
    refine lv_iload_n hx hb dJ6_numberOfTrailingZeros_0f7a4_44 rfl (lv_at hl 1 rfl) ?_
    refine lv_bipush (v := 8) hx hb dJ6_numberOfTrailingZeros_0f7a4_45 (by decide) ?_
    refine lv_iushr (v := (ush x0 (8 : Int32))) hx hb dJ6_numberOfTrailingZeros_0f7a4_47 rfl ?_
    refine lv_topi (fun v48 e48 => ?_)
    have hf := nx_at e48 hf
    refine lv_istore_n (lv' := [(0, .int v48), (1, .int v41)]) hx hb dJ6_numberOfTrailingZeros_0f7a4_48 rfl hl (by decide) rfl (fun ls hl => ?_)
    exact wJ6_numberOfTrailingZeros_0f7a4_49 X hf hR hl
set_option maxHeartbeats 4000000 in
set_option maxRecDepth 100000 in
theorem wJ6_numberOfTrailingZeros_0f7a4_0 {r : Int32} {M : Mem} (X : CX E p s m args c meth cJ6_numberOfTrailingZeros_0f7a4 2 (some .int) RJ6) : ∀ {x0 : Int32} {H : Heap} {locs : List Loc} {ls : Array Slot}, fJ6_numberOfTrailingZeros_0f7a4 M x0 = some r → Rl E (sh_ b) (nn b) s.heap M H locs → lv_has ls 2 [(0, .int x0)] → W p l e (rm 1 0 0) s m args below meth c H locs 0 0 (MQ below (qq E (some (.int r)) (sh_ b) (nn b) M) args s 0 0 (fr E)) (F0 m 0 ls []) := by
  obtain ⟨hx, hb, hr, hml, hown, hts, hK, hN, hO, hlk, hbs⟩ := id X
  intro x0 H locs ls hf hR hl
  unfold fJ6_numberOfTrailingZeros_0f7a4 at hf
  refine lv_iload_n hx hb dJ6_numberOfTrailingZeros_0f7a4_0 rfl (lv_at hl 0 rfl) ?_
  refine lv_iconst (v := -1) hx hb dJ6_numberOfTrailingZeros_0f7a4_1 (by decide) ?_
  refine lv_ixor hx hb dJ6_numberOfTrailingZeros_0f7a4_2 ?_
  refine lv_iload_n hx hb dJ6_numberOfTrailingZeros_0f7a4_3 rfl (lv_at hl 0 rfl) ?_
  refine lv_iconst (v := 1) hx hb dJ6_numberOfTrailingZeros_0f7a4_4 (by decide) ?_
  refine lv_isub hx hb dJ6_numberOfTrailingZeros_0f7a4_5 ?_
  refine lv_iand hx hb dJ6_numberOfTrailingZeros_0f7a4_6 ?_
  refine lv_topi (fun v7 e7 => ?_)
  have hf := nx_at e7 hf
  refine lv_istore_n (lv' := [(0, .int v7)]) hx hb dJ6_numberOfTrailingZeros_0f7a4_7 rfl hl (by decide) rfl (fun ls hl => ?_)
  refine lv_iload_n hx hb dJ6_numberOfTrailingZeros_0f7a4_8 rfl (lv_at hl 0 rfl) ?_
  refine lv_if_gt (tgt := 17) hx hb dJ6_numberOfTrailingZeros_0f7a4_9 (by decide) (fun q9 => ?_) (fun q9 => ?_)
  · have hf := (br_if hf).1 q9
    refine lv_iconst (v := 1) hx hb dJ6_numberOfTrailingZeros_0f7a4_17 (by decide) ?_
    refine lv_istore_n (lv' := [(1, .int (1 : Int32)), (0, .int v7)]) hx hb dJ6_numberOfTrailingZeros_0f7a4_18 rfl hl (by decide) rfl (fun ls hl => ?_)
    refine lv_iload_n hx hb dJ6_numberOfTrailingZeros_0f7a4_19 rfl (lv_at hl 1 rfl) ?_
    refine lv_ldcw hx hb hown (hts _ ki_J6_264) dJ6_numberOfTrailingZeros_0f7a4_20 ?_
    refine lv_icmp_le (tgt := 34) hx hb dJ6_numberOfTrailingZeros_0f7a4_23 (by decide) (fun q23 => ?_) (fun q23 => ?_)
    · have hf := (br_if hf).1 q23
      exact wJ6_numberOfTrailingZeros_0f7a4_34 X hf hR (lv_sub hl [1, 0] rfl)
    · have hf := (br_if hf).2 q23
      obtain ⟨v26, e26⟩ : ∃ y : Int32, y = ((1 : Int32) + (16 : Int32)) := ⟨_, rfl⟩
      have hf := nx_at e26 hf
      refine lv_iinc (v := v26) (lv' := [(1, .int v26), (0, .int v7)]) hx hb dJ6_numberOfTrailingZeros_0f7a4_26 hl (k := 0) rfl (by rw [e26]; rfl) (by decide) rfl (fun ls hl => ?_)
      refine lv_iload_n hx hb dJ6_numberOfTrailingZeros_0f7a4_29 rfl (lv_at hl 1 rfl) ?_
      refine lv_bipush (v := 16) hx hb dJ6_numberOfTrailingZeros_0f7a4_30 (by decide) ?_
      refine lv_iushr (v := (ush v7 (16 : Int32))) hx hb dJ6_numberOfTrailingZeros_0f7a4_32 rfl ?_
      refine lv_topi (fun v33 e33 => ?_)
      have hf := nx_at e33 hf
      refine lv_istore_n (lv' := [(0, .int v33), (1, .int v26)]) hx hb dJ6_numberOfTrailingZeros_0f7a4_33 rfl hl (by decide) rfl (fun ls hl => ?_)
      exact wJ6_numberOfTrailingZeros_0f7a4_34 X hf hR hl
  · have hf := (br_if hf).2 q9
    refine lv_iload_n hx hb dJ6_numberOfTrailingZeros_0f7a4_12 rfl (lv_at hl 0 rfl) ?_
    refine lv_bipush (v := 32) hx hb dJ6_numberOfTrailingZeros_0f7a4_13 (by decide) ?_
    refine lv_iand hx hb dJ6_numberOfTrailingZeros_0f7a4_15 ?_
    cases hf
    exact x_iret hx hb hr hlk hR dJ6_numberOfTrailingZeros_0f7a4_16
theorem ctJ6_numberOfTrailingZeros_0f7a4 {l : Launch} {E : Ge} {b : Bool} {M : Mem} {x0 : Int32} {r : Int32} (h : fJ6_numberOfTrailingZeros_0f7a4 M x0 = some r) : CT l E yJ6_numberOfTrailingZeros_0f7a4 cJ6_numberOfTrailingZeros_0f7a4 2 (some .int) 1 0 0 [.int x0] (some (.int r)) (sh_ b) (nn b) M (sh_ b) (nn b) M := by
  refine met_of (by decide) (Nat.le_of_ble_eq_true rfl) ?_
  intro p e s m args below meth c X _ hR ls hl
  exact wJ6_numberOfTrailingZeros_0f7a4_0 X h hR hl
def fJ6_bitCount_0f7a4 (M : Mem) (x0 : Int32) : Option Int32 := nx (x0 - ((ush x0 (1 : Int32)) &&& (1431655765 : Int32))) (fun v9 => nx ((v9 &&& (858993459 : Int32)) + ((ush v9 (2 : Int32)) &&& (858993459 : Int32))) (fun v23 => nx ((v23 + (ush v23 (4 : Int32))) &&& (252645135 : Int32)) (fun v33 => nx (v33 + (ush v33 (8 : Int32))) (fun v40 => nx (v40 + (ush v40 (16 : Int32))) (fun v47 => some (v47 &&& (63 : Int32)))))))
set_option maxHeartbeats 4000000 in
set_option maxRecDepth 100000 in
theorem wJ6_bitCount_0f7a4_0 {r : Int32} {M : Mem} (X : CX E p s m args c meth cJ6_bitCount_0f7a4 1 (some .int) RJ6) : ∀ {x0 : Int32} {H : Heap} {locs : List Loc} {ls : Array Slot}, fJ6_bitCount_0f7a4 M x0 = some r → Rl E (sh_ b) (nn b) s.heap M H locs → lv_has ls 1 [(0, .int x0)] → W p l e (rm 1 0 0) s m args below meth c H locs 0 0 (MQ below (qq E (some (.int r)) (sh_ b) (nn b) M) args s 0 0 (fr E)) (F0 m 0 ls []) := by
  obtain ⟨hx, hb, hr, hml, hown, hts, hK, hN, hO, hlk, hbs⟩ := id X
  intro x0 H locs ls hf hR hl
  unfold fJ6_bitCount_0f7a4 at hf
  refine lv_iload_n hx hb dJ6_bitCount_0f7a4_0 rfl (lv_at hl 0 rfl) ?_
  refine lv_iload_n hx hb dJ6_bitCount_0f7a4_1 rfl (lv_at hl 0 rfl) ?_
  refine lv_iconst (v := 1) hx hb dJ6_bitCount_0f7a4_2 (by decide) ?_
  refine lv_iushr (v := (ush x0 (1 : Int32))) hx hb dJ6_bitCount_0f7a4_3 rfl ?_
  refine lv_ldcw hx hb hown (hts _ ki_J6_265) dJ6_bitCount_0f7a4_4 ?_
  refine lv_iand hx hb dJ6_bitCount_0f7a4_7 ?_
  refine lv_isub hx hb dJ6_bitCount_0f7a4_8 ?_
  refine lv_topi (fun v9 e9 => ?_)
  have hf := nx_at e9 hf
  refine lv_istore_n (lv' := [(0, .int v9)]) hx hb dJ6_bitCount_0f7a4_9 rfl hl (by decide) rfl (fun ls hl => ?_)
  refine lv_iload_n hx hb dJ6_bitCount_0f7a4_10 rfl (lv_at hl 0 rfl) ?_
  refine lv_ldcw hx hb hown (hts _ ki_J6_266) dJ6_bitCount_0f7a4_11 ?_
  refine lv_iand hx hb dJ6_bitCount_0f7a4_14 ?_
  refine lv_iload_n hx hb dJ6_bitCount_0f7a4_15 rfl (lv_at hl 0 rfl) ?_
  refine lv_iconst (v := 2) hx hb dJ6_bitCount_0f7a4_16 (by decide) ?_
  refine lv_iushr (v := (ush v9 (2 : Int32))) hx hb dJ6_bitCount_0f7a4_17 rfl ?_
  refine lv_ldcw hx hb hown (hts _ ki_J6_266) dJ6_bitCount_0f7a4_18 ?_
  refine lv_iand hx hb dJ6_bitCount_0f7a4_21 ?_
  refine lv_iadd hx hb dJ6_bitCount_0f7a4_22 ?_
  refine lv_topi (fun v23 e23 => ?_)
  have hf := nx_at e23 hf
  refine lv_istore_n (lv' := [(0, .int v23)]) hx hb dJ6_bitCount_0f7a4_23 rfl hl (by decide) rfl (fun ls hl => ?_)
  refine lv_iload_n hx hb dJ6_bitCount_0f7a4_24 rfl (lv_at hl 0 rfl) ?_
  refine lv_iload_n hx hb dJ6_bitCount_0f7a4_25 rfl (lv_at hl 0 rfl) ?_
  refine lv_iconst (v := 4) hx hb dJ6_bitCount_0f7a4_26 (by decide) ?_
  refine lv_iushr (v := (ush v23 (4 : Int32))) hx hb dJ6_bitCount_0f7a4_27 rfl ?_
  refine lv_iadd hx hb dJ6_bitCount_0f7a4_28 ?_
  refine lv_ldcw hx hb hown (hts _ ki_J6_267) dJ6_bitCount_0f7a4_29 ?_
  refine lv_iand hx hb dJ6_bitCount_0f7a4_32 ?_
  refine lv_topi (fun v33 e33 => ?_)
  have hf := nx_at e33 hf
  refine lv_istore_n (lv' := [(0, .int v33)]) hx hb dJ6_bitCount_0f7a4_33 rfl hl (by decide) rfl (fun ls hl => ?_)
  refine lv_iload_n hx hb dJ6_bitCount_0f7a4_34 rfl (lv_at hl 0 rfl) ?_
  refine lv_iload_n hx hb dJ6_bitCount_0f7a4_35 rfl (lv_at hl 0 rfl) ?_
  refine lv_bipush (v := 8) hx hb dJ6_bitCount_0f7a4_36 (by decide) ?_
  refine lv_iushr (v := (ush v33 (8 : Int32))) hx hb dJ6_bitCount_0f7a4_38 rfl ?_
  refine lv_iadd hx hb dJ6_bitCount_0f7a4_39 ?_
  refine lv_topi (fun v40 e40 => ?_)
  have hf := nx_at e40 hf
  refine lv_istore_n (lv' := [(0, .int v40)]) hx hb dJ6_bitCount_0f7a4_40 rfl hl (by decide) rfl (fun ls hl => ?_)
  refine lv_iload_n hx hb dJ6_bitCount_0f7a4_41 rfl (lv_at hl 0 rfl) ?_
  refine lv_iload_n hx hb dJ6_bitCount_0f7a4_42 rfl (lv_at hl 0 rfl) ?_
  refine lv_bipush (v := 16) hx hb dJ6_bitCount_0f7a4_43 (by decide) ?_
  refine lv_iushr (v := (ush v40 (16 : Int32))) hx hb dJ6_bitCount_0f7a4_45 rfl ?_
  refine lv_iadd hx hb dJ6_bitCount_0f7a4_46 ?_
  refine lv_topi (fun v47 e47 => ?_)
  have hf := nx_at e47 hf
  refine lv_istore_n (lv' := [(0, .int v47)]) hx hb dJ6_bitCount_0f7a4_47 rfl hl (by decide) rfl (fun ls hl => ?_)
  refine lv_iload_n hx hb dJ6_bitCount_0f7a4_48 rfl (lv_at hl 0 rfl) ?_
  refine lv_bipush (v := 63) hx hb dJ6_bitCount_0f7a4_49 (by decide) ?_
  refine lv_iand hx hb dJ6_bitCount_0f7a4_51 ?_
  cases hf
  exact x_iret hx hb hr hlk hR dJ6_bitCount_0f7a4_52
theorem ctJ6_bitCount_0f7a4 {l : Launch} {E : Ge} {b : Bool} {M : Mem} {x0 : Int32} {r : Int32} (h : fJ6_bitCount_0f7a4 M x0 = some r) : CT l E yJ6_bitCount_0f7a4 cJ6_bitCount_0f7a4 1 (some .int) 1 0 0 [.int x0] (some (.int r)) (sh_ b) (nn b) M (sh_ b) (nn b) M := by
  refine met_of (by decide) (Nat.le_of_ble_eq_true rfl) ?_
  intro p e s m args below meth c X _ hR ls hl
  exact wJ6_bitCount_0f7a4_0 X h hR hl
def fX10_commonPart_15 (M : Mem) (k50 : Int64 → Option Int64) : Nat → Int64 → Int64 → Int32 → Option Int64
  | 0, _, _, _ => none
  | n + 1, y4, y6, x8 => (if (100 : Int32) ≤ x8 then k50 y4 else (if (lg_cmp y6 (0 : Int64)) = 0 then k50 y4 else (if ¬ y6 = 0 then nx (lrm y4 y6) (fun v34 => nx (x8 + (1 : Int32)) (fun v44 => fX10_commonPart_15 M k50 n y6 v34 v44)) else none)))
def fX10_commonPart_50 (M : Mem) (y4 : Int64) : Option Int64 := some y4
def fX10_commonPart (M : Mem) (y0 : Int64) (y2 : Int64) : Option Int64 := nx (labs y0) (fun v4 => nx (labs y2) (fun v10 => fX10_commonPart_15 M (fX10_commonPart_50 M) FU v4 v10 (0 : Int32)))
set_option maxHeartbeats 4000000 in
set_option maxRecDepth 100000 in
theorem wX10_commonPart_15 {r : Int64} {M : Mem} {k50 : Int64 → Option Int64} (X : CX E p s m args c meth cX10_commonPart 11 (some .long) RX10) (hk50 : ∀ {y4 : Int64} {H : Heap} {locs : List Loc} {ls : Array Slot}, k50 y4 = some r → Rl E (sh_ b) (nn b) s.heap M H locs → lv_has ls 11 [(4, .long y4)] → W p l e (rm 2 0 0) s m args below meth c H locs 0 0 (MQ below (qq E (some (.long r)) (sh_ b) (nn b) M) args s 0 0 (fr E)) (F0 m 50 ls [])) : ∀ (n : Nat) {y4 : Int64} {y6 : Int64} {x8 : Int32} {H : Heap} {locs : List Loc} {ls : Array Slot}, fX10_commonPart_15 M k50 n y4 y6 x8 = some r → Rl E (sh_ b) (nn b) s.heap M H locs → lv_has ls 11 [(4, .long y4), (6, .long y6), (8, .int x8)] → W p l e (rm 2 0 0) s m args below meth c H locs 0 0 (MQ below (qq E (some (.long r)) (sh_ b) (nn b) M) args s 0 0 (fr E)) (F0 m 15 ls []) := by
  obtain ⟨hx, hb, hr, hml, hown, hts, hK, hN, hO, hlk, hbs⟩ := id X
  intro n
  induction n with
  | zero =>
    intro y4 y6 x8 H locs ls hf hR hl
    exact absurd (show none = some _ from hf) (fun h => by cases h)
  | succ n ih =>
    intro y4 y6 x8 H locs ls hf hR hl
    rw [fX10_commonPart_15] at hf
    refine lv_iload hx hb dX10_commonPart_15 (lv_at hl 2 rfl) ?_
    refine lv_bipush (v := 100) hx hb dX10_commonPart_17 (by decide) ?_
    refine lv_icmp_ge (tgt := 50) hx hb dX10_commonPart_19 (by decide) (fun q19 => ?_) (fun q19 => ?_)
    · have hf := (br_if hf).1 q19
      exact hk50 hf hR (lv_sub hl [0] rfl)
    · have hf := (br_if hf).2 q19
      refine lv_lload hx hb dX10_commonPart_22 (lv_at hl 1 rfl) ?_
      refine lv_lconst (v := 0) hx hb dX10_commonPart_24 (by decide) ?_
      refine W.lcmp hx hb dX10_commonPart_25 ?_
      refine lv_if_eq (tgt := 50) hx hb dX10_commonPart_26 (by decide) (fun q26 => ?_) (fun q26 => ?_)
      · have hf := (br_if hf).1 q26
        exact hk50 hf hR (lv_sub hl [0] rfl)
      · have hf := (br_if hf).2 q26
        refine lv_lload hx hb dX10_commonPart_29 (lv_at hl 0 rfl) ?_
        refine lv_lload hx hb dX10_commonPart_31 (lv_at hl 1 rfl) ?_
        obtain ⟨g33, hf⟩ := br_g hf
        refine lv_lrem hx hb dX10_commonPart_33 g33 ?_
        refine W.eq (g2 := F0 m 34 ls [.long (lrm y4 y6)]) rfl ?_
        refine lv_topl (fun v34 e34 => ?_)
        have hf := nx_at e34 hf
        refine lv_lstore (lv' := [(9, .long v34), (4, .long y4), (6, .long y6), (8, .int x8)]) hx hb dX10_commonPart_34 hl (by decide) rfl (fun ls hl => ?_)
        refine lv_lload hx hb dX10_commonPart_36 (lv_at hl 2 rfl) ?_
        refine lv_lstore (lv' := [(4, .long y6), (9, .long v34), (6, .long y6), (8, .int x8)]) hx hb dX10_commonPart_38 hl (by decide) rfl (fun ls hl => ?_)
        refine lv_lload hx hb dX10_commonPart_40 (lv_at hl 1 rfl) ?_
        refine lv_lstore (lv' := [(6, .long v34), (4, .long y6), (9, .long v34), (8, .int x8)]) hx hb dX10_commonPart_42 hl (by decide) rfl (fun ls hl => ?_)
        obtain ⟨v44, e44⟩ : ∃ y : Int32, y = (x8 + (1 : Int32)) := ⟨_, rfl⟩
        have hf := nx_at e44 hf
        refine lv_iinc (v := v44) (lv' := [(8, .int v44), (6, .long v34), (4, .long y6), (9, .long v34)]) hx hb dX10_commonPart_44 hl (k := 3) rfl (by rw [e44]; rfl) (by decide) rfl (fun ls hl => ?_)
        refine lv_goto (tgt := 15) hx hb dX10_commonPart_47 (by decide) ?_
        exact ih hf hR (lv_sub hl [2, 1, 0] rfl)
set_option maxHeartbeats 4000000 in
set_option maxRecDepth 100000 in
theorem wX10_commonPart_50 {r : Int64} {M : Mem} (X : CX E p s m args c meth cX10_commonPart 11 (some .long) RX10) : ∀ {y4 : Int64} {H : Heap} {locs : List Loc} {ls : Array Slot}, fX10_commonPart_50 M y4 = some r → Rl E (sh_ b) (nn b) s.heap M H locs → lv_has ls 11 [(4, .long y4)] → W p l e (rm 2 0 0) s m args below meth c H locs 0 0 (MQ below (qq E (some (.long r)) (sh_ b) (nn b) M) args s 0 0 (fr E)) (F0 m 50 ls []) := by
  obtain ⟨hx, hb, hr, hml, hown, hts, hK, hN, hO, hlk, hbs⟩ := id X
  intro y4 H locs ls hf hR hl
  unfold fX10_commonPart_50 at hf
  refine lv_lload hx hb dX10_commonPart_50 (lv_at hl 0 rfl) ?_
  cases hf
  exact x_lret hx hb hr hlk hR dX10_commonPart_52
set_option maxHeartbeats 4000000 in
set_option maxRecDepth 100000 in
theorem wX10_commonPart_0 {r : Int64} {M : Mem} (X : CX E p s m args c meth cX10_commonPart 11 (some .long) RX10) : ∀ {y0 : Int64} {y2 : Int64} {H : Heap} {locs : List Loc} {ls : Array Slot}, fX10_commonPart M y0 y2 = some r → Rl E (sh_ b) (nn b) s.heap M H locs → lv_has ls 11 [(0, .long y0), (2, .long y2)] → W p l e (rm 2 0 0) s m args below meth c H locs 0 0 (MQ below (qq E (some (.long r)) (sh_ b) (nn b) M) args s 0 0 (fr E)) (F0 m 0 ls []) := by
  obtain ⟨hx, hb, hr, hml, hown, hts, hK, hN, hO, hlk, hbs⟩ := id X
  intro y0 y2 H locs ls hf hR hl
  unfold fX10_commonPart at hf
  refine lv_lload_n hx hb dX10_commonPart_0 rfl (lv_at hl 0 rfl) ?_
  refine va_mabs_long hx hb (by rw [hml]; exact hl.1.symm) hown (hts _ ml_X10_322) (hts _ st_absl) (hts _ in_J9) (hts _ co_absl) (by decide) (Nat.le_of_ble_eq_true rfl) (Nat.zero_le _) (Nat.zero_le _) dX10_commonPart_1 ?_
  refine W.eq (g2 := F0 m 4 ls [.long (labs y0)]) rfl ?_
  refine lv_topl (fun v4 e4 => ?_)
  have hf := nx_at e4 hf
  refine lv_lstore (lv' := [(4, .long v4), (0, .long y0), (2, .long y2)]) hx hb dX10_commonPart_4 hl (by decide) rfl (fun ls hl => ?_)
  refine lv_lload_n hx hb dX10_commonPart_6 rfl (lv_at hl 2 rfl) ?_
  refine va_mabs_long hx hb (by rw [hml]; exact hl.1.symm) hown (hts _ ml_X10_322) (hts _ st_absl) (hts _ in_J9) (hts _ co_absl) (by decide) (Nat.le_of_ble_eq_true rfl) (Nat.zero_le _) (Nat.zero_le _) dX10_commonPart_7 ?_
  refine W.eq (g2 := F0 m 10 ls [.long (labs y2)]) rfl ?_
  refine lv_topl (fun v10 e10 => ?_)
  have hf := nx_at e10 hf
  refine lv_lstore (lv' := [(6, .long v10), (4, .long v4), (0, .long y0), (2, .long y2)]) hx hb dX10_commonPart_10 hl (by decide) rfl (fun ls hl => ?_)
  refine lv_iconst (v := 0) hx hb dX10_commonPart_12 (by decide) ?_
  refine lv_istore (lv' := [(8, .int (0 : Int32)), (6, .long v10), (4, .long v4), (0, .long y0), (2, .long y2)]) hx hb dX10_commonPart_13 hl (by decide) rfl (fun ls hl => ?_)
  exact wX10_commonPart_15 X (fun hf hR hl => wX10_commonPart_50 X hf hR hl) FU hf hR (lv_sub hl [2, 1, 0] rfl)
theorem ctX10_commonPart {l : Launch} {E : Ge} {b : Bool} {M : Mem} {y0 : Int64} {y2 : Int64} {r : Int64} (h : fX10_commonPart M y0 y2 = some r) : CT l E yX10_commonPart cX10_commonPart 11 (some .long) 2 0 0 [.long y0, .long y2] (some (.long r)) (sh_ b) (nn b) M (sh_ b) (nn b) M := by
  refine met_of (by decide) (Nat.le_of_ble_eq_true rfl) ?_
  intro p e s m args below meth c X _ hR ls hl
  exact wX10_commonPart_0 X h hR hl
def fX10_isPoint_25 (M : Mem) (s0 : Int32) : Option Int32 := some (s0 &&& 1)
def fX10_isPoint_24 (M : Mem) : Option Int32 := fX10_isPoint_25 M (0 : Int32)
def fX10_isPoint (M : Mem) (x0 : Int32) (x1 : Int32) : Option Int32 := (if x0 < 0 then fX10_isPoint_24 M else (if (100 : Int32) ≤ x0 then fX10_isPoint_24 M else (if x1 < 0 then fX10_isPoint_24 M else (if (100 : Int32) ≤ x1 then fX10_isPoint_24 M else fX10_isPoint_25 M (1 : Int32)))))
set_option maxHeartbeats 4000000 in
set_option maxRecDepth 100000 in
theorem wX10_isPoint_25 {r : Int32} {M : Mem} (X : CX E p s m args c meth cX10_isPoint 2 (some .boolean) RX10) : ∀ {s0 : Int32} {H : Heap} {locs : List Loc} {ls : Array Slot}, fX10_isPoint_25 M s0 = some r → Rl E (sh_ b) (nn b) s.heap M H locs → lv_has ls 2 [] → W p l e (rm 1 0 0) s m args below meth c H locs 0 0 (MQ below (qq E (some (.int r)) (sh_ b) (nn b) M) args s 0 0 (fr E)) (F0 m 25 ls [.int s0]) := by
  obtain ⟨hx, hb, hr, hml, hown, hts, hK, hN, hO, hlk, hbs⟩ := id X
  intro s0 H locs ls hf hR hl
  unfold fX10_isPoint_25 at hf
  cases hf
  exact x_zret hx hb hr hlk hR rfl dX10_isPoint_25
set_option maxHeartbeats 4000000 in
set_option maxRecDepth 100000 in
theorem wX10_isPoint_24 {r : Int32} {M : Mem} (X : CX E p s m args c meth cX10_isPoint 2 (some .boolean) RX10) : ∀ {H : Heap} {locs : List Loc} {ls : Array Slot}, fX10_isPoint_24 M = some r → Rl E (sh_ b) (nn b) s.heap M H locs → lv_has ls 2 [] → W p l e (rm 1 0 0) s m args below meth c H locs 0 0 (MQ below (qq E (some (.int r)) (sh_ b) (nn b) M) args s 0 0 (fr E)) (F0 m 24 ls []) := by
  obtain ⟨hx, hb, hr, hml, hown, hts, hK, hN, hO, hlk, hbs⟩ := id X
  intro H locs ls hf hR hl
  unfold fX10_isPoint_24 at hf
  refine lv_iconst (v := 0) hx hb dX10_isPoint_24 (by decide) ?_
  exact wX10_isPoint_25 X hf hR hl
set_option maxHeartbeats 4000000 in
set_option maxRecDepth 100000 in
theorem wX10_isPoint_0 {r : Int32} {M : Mem} (X : CX E p s m args c meth cX10_isPoint 2 (some .boolean) RX10) : ∀ {x0 : Int32} {x1 : Int32} {H : Heap} {locs : List Loc} {ls : Array Slot}, fX10_isPoint M x0 x1 = some r → Rl E (sh_ b) (nn b) s.heap M H locs → lv_has ls 2 [(0, .int x0), (1, .int x1)] → W p l e (rm 1 0 0) s m args below meth c H locs 0 0 (MQ below (qq E (some (.int r)) (sh_ b) (nn b) M) args s 0 0 (fr E)) (F0 m 0 ls []) := by
  obtain ⟨hx, hb, hr, hml, hown, hts, hK, hN, hO, hlk, hbs⟩ := id X
  intro x0 x1 H locs ls hf hR hl
  unfold fX10_isPoint at hf
  refine lv_iload_n hx hb dX10_isPoint_0 rfl (lv_at hl 0 rfl) ?_
  refine lv_if_lt (tgt := 24) hx hb dX10_isPoint_1 (by decide) (fun q1 => ?_) (fun q1 => ?_)
  · have hf := (br_if hf).1 q1
    exact wX10_isPoint_24 X hf hR (lv_sub hl [] rfl)
  · have hf := (br_if hf).2 q1
    refine lv_iload_n hx hb dX10_isPoint_4 rfl (lv_at hl 0 rfl) ?_
    refine lv_bipush (v := 100) hx hb dX10_isPoint_5 (by decide) ?_
    refine lv_icmp_ge (tgt := 24) hx hb dX10_isPoint_7 (by decide) (fun q7 => ?_) (fun q7 => ?_)
    · have hf := (br_if hf).1 q7
      exact wX10_isPoint_24 X hf hR (lv_sub hl [] rfl)
    · have hf := (br_if hf).2 q7
      refine lv_iload_n hx hb dX10_isPoint_10 rfl (lv_at hl 1 rfl) ?_
      refine lv_if_lt (tgt := 24) hx hb dX10_isPoint_11 (by decide) (fun q11 => ?_) (fun q11 => ?_)
      · have hf := (br_if hf).1 q11
        exact wX10_isPoint_24 X hf hR (lv_sub hl [] rfl)
      · have hf := (br_if hf).2 q11
        refine lv_iload_n hx hb dX10_isPoint_14 rfl (lv_at hl 1 rfl) ?_
        refine lv_bipush (v := 100) hx hb dX10_isPoint_15 (by decide) ?_
        refine lv_icmp_ge (tgt := 24) hx hb dX10_isPoint_17 (by decide) (fun q17 => ?_) (fun q17 => ?_)
        · have hf := (br_if hf).1 q17
          exact wX10_isPoint_24 X hf hR (lv_sub hl [] rfl)
        · have hf := (br_if hf).2 q17
          refine lv_iconst (v := 1) hx hb dX10_isPoint_20 (by decide) ?_
          refine lv_goto (tgt := 25) hx hb dX10_isPoint_21 (by decide) ?_
          exact wX10_isPoint_25 X hf hR (lv_sub hl [] rfl)
theorem ctX10_isPoint {l : Launch} {E : Ge} {b : Bool} {M : Mem} {x0 : Int32} {x1 : Int32} {r : Int32} (h : fX10_isPoint M x0 x1 = some r) : CT l E yX10_isPoint cX10_isPoint 2 (some .boolean) 1 0 0 [.int x0, .int x1] (some (.int r)) (sh_ b) (nn b) M (sh_ b) (nn b) M := by
  refine met_of (by decide) (Nat.le_of_ble_eq_true rfl) ?_
  intro p e s m args below meth c X _ hR ls hl
  exact wX10_isPoint_0 X h hR hl
def fJ13_compare_74951_21 (M : Mem) (s0 : Int32) : Option Int32 := some s0
def fJ13_compare_74951 (M : Mem) (y0 : Int64) (y2 : Int64) : Option Int32 := (if 0 ≤ (lg_cmp y0 y2) then (if (lg_cmp y0 y2) = 0 then fJ13_compare_74951_21 M (0 : Int32) else fJ13_compare_74951_21 M (1 : Int32)) else fJ13_compare_74951_21 M (-1 : Int32))
set_option maxHeartbeats 4000000 in
set_option maxRecDepth 100000 in
theorem wJ13_compare_74951_21 {r : Int32} {M : Mem} (X : CX E p s m args c meth cJ13_compare_74951 4 (some .int) RJ13) : ∀ {s0 : Int32} {H : Heap} {locs : List Loc} {ls : Array Slot}, fJ13_compare_74951_21 M s0 = some r → Rl E (sh_ b) (nn b) s.heap M H locs → lv_has ls 4 [] → W p l e (rm 1 0 0) s m args below meth c H locs 0 0 (MQ below (qq E (some (.int r)) (sh_ b) (nn b) M) args s 0 0 (fr E)) (F0 m 21 ls [.int s0]) := by
  obtain ⟨hx, hb, hr, hml, hown, hts, hK, hN, hO, hlk, hbs⟩ := id X
  intro s0 H locs ls hf hR hl
  unfold fJ13_compare_74951_21 at hf
  cases hf
  exact x_iret hx hb hr hlk hR dJ13_compare_74951_21
set_option maxHeartbeats 4000000 in
set_option maxRecDepth 100000 in
theorem wJ13_compare_74951_0 {r : Int32} {M : Mem} (X : CX E p s m args c meth cJ13_compare_74951 4 (some .int) RJ13) : ∀ {y0 : Int64} {y2 : Int64} {H : Heap} {locs : List Loc} {ls : Array Slot}, fJ13_compare_74951 M y0 y2 = some r → Rl E (sh_ b) (nn b) s.heap M H locs → lv_has ls 4 [(0, .long y0), (2, .long y2)] → W p l e (rm 1 0 0) s m args below meth c H locs 0 0 (MQ below (qq E (some (.int r)) (sh_ b) (nn b) M) args s 0 0 (fr E)) (F0 m 0 ls []) := by
  obtain ⟨hx, hb, hr, hml, hown, hts, hK, hN, hO, hlk, hbs⟩ := id X
  intro y0 y2 H locs ls hf hR hl
  unfold fJ13_compare_74951 at hf
  refine lv_lload_n hx hb dJ13_compare_74951_0 rfl (lv_at hl 0 rfl) ?_
  refine lv_lload_n hx hb dJ13_compare_74951_1 rfl (lv_at hl 1 rfl) ?_
  refine W.lcmp hx hb dJ13_compare_74951_2 ?_
  refine lv_if_ge (tgt := 10) hx hb dJ13_compare_74951_3 (by decide) (fun q3 => ?_) (fun q3 => ?_)
  · have hf := (br_if hf).1 q3
    refine lv_lload_n hx hb dJ13_compare_74951_10 rfl (lv_at hl 0 rfl) ?_
    refine lv_lload_n hx hb dJ13_compare_74951_11 rfl (lv_at hl 1 rfl) ?_
    refine W.lcmp hx hb dJ13_compare_74951_12 ?_
    refine lv_if_ne (tgt := 20) hx hb dJ13_compare_74951_13 (by decide) (fun q13 => ?_) (fun q13 => ?_)
    · have hf := (br_if hf).2 q13
      refine lv_iconst (v := 1) hx hb dJ13_compare_74951_20 (by decide) ?_
      exact wJ13_compare_74951_21 X hf hR (lv_sub hl [] rfl)
    · have hf := (br_if hf).1 q13
      refine lv_iconst (v := 0) hx hb dJ13_compare_74951_16 (by decide) ?_
      refine lv_goto (tgt := 21) hx hb dJ13_compare_74951_17 (by decide) ?_
      exact wJ13_compare_74951_21 X hf hR (lv_sub hl [] rfl)
  · have hf := (br_if hf).2 q3
    refine lv_iconst (v := -1) hx hb dJ13_compare_74951_6 (by decide) ?_
    refine lv_goto (tgt := 21) hx hb dJ13_compare_74951_7 (by decide) ?_
    exact wJ13_compare_74951_21 X hf hR (lv_sub hl [] rfl)
theorem ctJ13_compare_74951 {l : Launch} {E : Ge} {b : Bool} {M : Mem} {y0 : Int64} {y2 : Int64} {r : Int32} (h : fJ13_compare_74951 M y0 y2 = some r) : CT l E yJ13_compare_74951 cJ13_compare_74951 4 (some .int) 1 0 0 [.long y0, .long y2] (some (.int r)) (sh_ b) (nn b) M (sh_ b) (nn b) M := by
  refine met_of (by decide) (Nat.le_of_ble_eq_true rfl) ?_
  intro p e s m args below meth c X _ hR ls hl
  exact wJ13_compare_74951_0 X h hR hl
def fJ7_fill_53178_5 (k len : Nat) (k20 : Mem → Option Mem) : Nat → Int32 → Int32 → Int32 → Mem → Option Mem
  | 0, _, _, _, _ => none
  | n + 1, x1, x2, x3, M => (if x3 ≤ x2 then k20 M else (if inb x2 len = true then nx (sI M k (ix x2) x1) (fun M13 => nx (x2 + (1 : Int32)) (fun v14 => fJ7_fill_53178_5 k len k20 n x1 v14 x3 M13)) else none))
def fJ7_fill_53178_20 (k len : Nat) (M : Mem) : Option Mem := some M
def fJ7_fill_53178 (k len : Nat) (x1 : Int32) (M : Mem) : Option Mem := nx (nI len) (fun v4 => fJ7_fill_53178_5 k len (fJ7_fill_53178_20 k len) FU x1 (0 : Int32) v4 M)
set_option maxHeartbeats 4000000 in
set_option maxRecDepth 100000 in
theorem wJ7_fill_53178_5 {M1 : Mem} {k len : Nat} (hk0 : At (sh_ b) (nn b) k (1, len, [])) {k20 : Mem → Option Mem} (X : CX E p s m args c meth cJ7_fill_53178 4 none RJ7) (hk20 : ∀ {M : Mem} {H : Heap} {locs : List Loc} {ls : Array Slot}, k20 M = some M1 → Rl E (sh_ b) (nn b) s.heap M H locs → lv_has ls 4 [] → W p l e (rm 1 0 0) s m args below meth c H locs 0 0 (MQ below (qq E none (sh_ b) (nn b) M1) args s 0 0 (fr E)) (F0 m 20 ls [])) : ∀ (n : Nat) {x1 : Int32} {x2 : Int32} {x3 : Int32} {M : Mem} {H : Heap} {locs : List Loc} {ls : Array Slot}, fJ7_fill_53178_5 k len k20 n x1 x2 x3 M = some M1 → Rl E (sh_ b) (nn b) s.heap M H locs → lv_has ls 4 [(0, .ref (eB E + k)), (1, .int x1), (2, .int x2), (3, .int x3)] → W p l e (rm 1 0 0) s m args below meth c H locs 0 0 (MQ below (qq E none (sh_ b) (nn b) M1) args s 0 0 (fr E)) (F0 m 5 ls []) := by
  obtain ⟨hx, hb, hr, hml, hown, hts, hK, hN, hO, hlk, hbs⟩ := id X
  intro n
  induction n with
  | zero =>
    intro x1 x2 x3 M H locs ls hf hR hl
    exact absurd (show none = some _ from hf) (fun h => by cases h)
  | succ n ih =>
    intro x1 x2 x3 M H locs ls hf hR hl
    rw [fJ7_fill_53178_5] at hf
    refine lv_iload_n hx hb dJ7_fill_53178_5 rfl (lv_at hl 2 rfl) ?_
    refine lv_iload_n hx hb dJ7_fill_53178_6 rfl (lv_at hl 3 rfl) ?_
    refine lv_icmp_ge (tgt := 20) hx hb dJ7_fill_53178_7 (by decide) (fun q7 => ?_) (fun q7 => ?_)
    · have hf := (br_if hf).1 q7
      exact hk20 hf hR (lv_sub hl [] rfl)
    · have hf := (br_if hf).2 q7
      refine lv_aload_n hx hb dJ7_fill_53178_10 rfl (lv_at hl 0 rfl) ?_
      refine lv_iload_n hx hb dJ7_fill_53178_11 rfl (lv_at hl 2 rfl) ?_
      refine lv_iload_n hx hb dJ7_fill_53178_12 rfl (lv_at hl 1 rfl) ?_
      obtain ⟨g13, hf⟩ := br_g hf
      refine x_iast hx hb hK hR hk0 g13 dJ7_fill_53178_13 (fun H locs hR => ?_)
      obtain ⟨M13, e13⟩ : ∃ y : Mem, y = (sI M k (ix x2) x1) := ⟨_, rfl⟩
      have hf := nx_at e13 hf
      have hR : Rl E (sh_ b) (nn b) s.heap M13 H locs := by rw [e13]; exact hR
      obtain ⟨v14, e14⟩ : ∃ y : Int32, y = (x2 + (1 : Int32)) := ⟨_, rfl⟩
      have hf := nx_at e14 hf
      refine lv_iinc (v := v14) (lv' := [(2, .int v14), (0, .ref (eB E + k)), (1, .int x1), (3, .int x3)]) hx hb dJ7_fill_53178_14 hl (k := 2) rfl (by rw [e14]; rfl) (by decide) rfl (fun ls hl => ?_)
      refine lv_goto (tgt := 5) hx hb dJ7_fill_53178_17 (by decide) ?_
      exact ih hf hR (lv_sub hl [1, 2, 0, 3] rfl)
set_option maxHeartbeats 4000000 in
set_option maxRecDepth 100000 in
theorem wJ7_fill_53178_20 {M1 : Mem} {k len : Nat} (hk0 : At (sh_ b) (nn b) k (1, len, [])) (X : CX E p s m args c meth cJ7_fill_53178 4 none RJ7) : ∀ {M : Mem} {H : Heap} {locs : List Loc} {ls : Array Slot}, fJ7_fill_53178_20 k len M = some M1 → Rl E (sh_ b) (nn b) s.heap M H locs → lv_has ls 4 [] → W p l e (rm 1 0 0) s m args below meth c H locs 0 0 (MQ below (qq E none (sh_ b) (nn b) M1) args s 0 0 (fr E)) (F0 m 20 ls []) := by
  obtain ⟨hx, hb, hr, hml, hown, hts, hK, hN, hO, hlk, hbs⟩ := id X
  intro M H locs ls hf hR hl
  unfold fJ7_fill_53178_20 at hf
  cases hf
  exact x_vret hx hb hr hlk hR dJ7_fill_53178_20
set_option maxHeartbeats 4000000 in
set_option maxRecDepth 100000 in
theorem wJ7_fill_53178_0 {M1 : Mem} {k len : Nat} (hk0 : At (sh_ b) (nn b) k (1, len, [])) (X : CX E p s m args c meth cJ7_fill_53178 4 none RJ7) : ∀ {x1 : Int32} {M : Mem} {H : Heap} {locs : List Loc} {ls : Array Slot}, fJ7_fill_53178 k len x1 M = some M1 → Rl E (sh_ b) (nn b) s.heap M H locs → lv_has ls 4 [(0, .ref (eB E + k)), (1, .int x1)] → W p l e (rm 1 0 0) s m args below meth c H locs 0 0 (MQ below (qq E none (sh_ b) (nn b) M1) args s 0 0 (fr E)) (F0 m 0 ls []) := by
  obtain ⟨hx, hb, hr, hml, hown, hts, hK, hN, hO, hlk, hbs⟩ := id X
  intro x1 M H locs ls hf hR hl
  unfold fJ7_fill_53178 at hf
  refine lv_iconst (v := 0) hx hb dJ7_fill_53178_0 (by decide) ?_
  refine lv_istore_n (lv' := [(2, .int (0 : Int32)), (0, .ref (eB E + k)), (1, .int x1)]) hx hb dJ7_fill_53178_1 rfl hl (by decide) rfl (fun ls hl => ?_)
  refine lv_aload_n hx hb dJ7_fill_53178_2 rfl (lv_at hl 1 rfl) ?_
  refine x_alen hx hb hK hR hk0 (Or.inl rfl) dJ7_fill_53178_3 ?_
  refine lv_topi (fun v4 e4 => ?_)
  have hf := nx_at e4 hf
  refine lv_istore_n (lv' := [(3, .int v4), (2, .int (0 : Int32)), (0, .ref (eB E + k)), (1, .int x1)]) hx hb dJ7_fill_53178_4 rfl hl (by decide) rfl (fun ls hl => ?_)
  exact wJ7_fill_53178_5 hk0 X (fun hf hR hl => wJ7_fill_53178_20 hk0 X hf hR hl) FU hf hR (lv_sub hl [2, 3, 1, 0] rfl)
theorem ctJ7_fill_53178 {l : Launch} {E : Ge} {b : Bool} {M : Mem} {k len : Nat} (hk0 : At (sh_ b) (nn b) k (1, len, [])) {x1 : Int32} {M1 : Mem} (h : fJ7_fill_53178 k len x1 M = some M1) : CT l E yJ7_fill_53178 cJ7_fill_53178 4 none 1 0 0 [.ref (eB E + k), .int x1] none (sh_ b) (nn b) M (sh_ b) (nn b) M1 := by
  refine met_of (by decide) (Nat.le_of_ble_eq_true rfl) ?_
  intro p e s m args below meth c X _ hR ls hl
  exact wJ7_fill_53178_0 hk0 X h hR hl
def fJ7_fill_d0a16_6 (k len : Nat) (k22 : Mem → Option Mem) : Nat → Int64 → Int32 → Int32 → Mem → Option Mem
  | 0, _, _, _, _ => none
  | n + 1, y1, x3, x4, M => (if x4 ≤ x3 then k22 M else (if inb x3 len = true then nx (sL M k (ix x3) y1) (fun M15 => nx (x3 + (1 : Int32)) (fun v16 => fJ7_fill_d0a16_6 k len k22 n y1 v16 x4 M15)) else none))
def fJ7_fill_d0a16_22 (k len : Nat) (M : Mem) : Option Mem := some M
def fJ7_fill_d0a16 (k len : Nat) (y1 : Int64) (M : Mem) : Option Mem := nx (nI len) (fun v4 => fJ7_fill_d0a16_6 k len (fJ7_fill_d0a16_22 k len) FU y1 (0 : Int32) v4 M)
set_option maxHeartbeats 4000000 in
set_option maxRecDepth 100000 in
theorem wJ7_fill_d0a16_6 {M1 : Mem} {k len : Nat} (hk0 : At (sh_ b) (nn b) k (2, len, [])) {k22 : Mem → Option Mem} (X : CX E p s m args c meth cJ7_fill_d0a16 5 none RJ7) (hk22 : ∀ {M : Mem} {H : Heap} {locs : List Loc} {ls : Array Slot}, k22 M = some M1 → Rl E (sh_ b) (nn b) s.heap M H locs → lv_has ls 5 [] → W p l e (rm 1 0 0) s m args below meth c H locs 0 0 (MQ below (qq E none (sh_ b) (nn b) M1) args s 0 0 (fr E)) (F0 m 22 ls [])) : ∀ (n : Nat) {y1 : Int64} {x3 : Int32} {x4 : Int32} {M : Mem} {H : Heap} {locs : List Loc} {ls : Array Slot}, fJ7_fill_d0a16_6 k len k22 n y1 x3 x4 M = some M1 → Rl E (sh_ b) (nn b) s.heap M H locs → lv_has ls 5 [(0, .ref (eB E + k)), (1, .long y1), (3, .int x3), (4, .int x4)] → W p l e (rm 1 0 0) s m args below meth c H locs 0 0 (MQ below (qq E none (sh_ b) (nn b) M1) args s 0 0 (fr E)) (F0 m 6 ls []) := by
  obtain ⟨hx, hb, hr, hml, hown, hts, hK, hN, hO, hlk, hbs⟩ := id X
  intro n
  induction n with
  | zero =>
    intro y1 x3 x4 M H locs ls hf hR hl
    exact absurd (show none = some _ from hf) (fun h => by cases h)
  | succ n ih =>
    intro y1 x3 x4 M H locs ls hf hR hl
    rw [fJ7_fill_d0a16_6] at hf
    refine lv_iload_n hx hb dJ7_fill_d0a16_6 rfl (lv_at hl 2 rfl) ?_
    refine lv_iload hx hb dJ7_fill_d0a16_7 (lv_at hl 3 rfl) ?_
    refine lv_icmp_ge (tgt := 22) hx hb dJ7_fill_d0a16_9 (by decide) (fun q9 => ?_) (fun q9 => ?_)
    · have hf := (br_if hf).1 q9
      exact hk22 hf hR (lv_sub hl [] rfl)
    · have hf := (br_if hf).2 q9
      refine lv_aload_n hx hb dJ7_fill_d0a16_12 rfl (lv_at hl 0 rfl) ?_
      refine lv_iload_n hx hb dJ7_fill_d0a16_13 rfl (lv_at hl 2 rfl) ?_
      refine lv_lload_n hx hb dJ7_fill_d0a16_14 rfl (lv_at hl 1 rfl) ?_
      obtain ⟨g15, hf⟩ := br_g hf
      refine x_last hx hb hK hR hk0 g15 dJ7_fill_d0a16_15 (fun H locs hR => ?_)
      obtain ⟨M15, e15⟩ : ∃ y : Mem, y = (sL M k (ix x3) y1) := ⟨_, rfl⟩
      have hf := nx_at e15 hf
      have hR : Rl E (sh_ b) (nn b) s.heap M15 H locs := by rw [e15]; exact hR
      obtain ⟨v16, e16⟩ : ∃ y : Int32, y = (x3 + (1 : Int32)) := ⟨_, rfl⟩
      have hf := nx_at e16 hf
      refine lv_iinc (v := v16) (lv' := [(3, .int v16), (0, .ref (eB E + k)), (1, .long y1), (4, .int x4)]) hx hb dJ7_fill_d0a16_16 hl (k := 2) rfl (by rw [e16]; rfl) (by decide) rfl (fun ls hl => ?_)
      refine lv_goto (tgt := 6) hx hb dJ7_fill_d0a16_19 (by decide) ?_
      exact ih hf hR (lv_sub hl [1, 2, 0, 3] rfl)
set_option maxHeartbeats 4000000 in
set_option maxRecDepth 100000 in
theorem wJ7_fill_d0a16_22 {M1 : Mem} {k len : Nat} (hk0 : At (sh_ b) (nn b) k (2, len, [])) (X : CX E p s m args c meth cJ7_fill_d0a16 5 none RJ7) : ∀ {M : Mem} {H : Heap} {locs : List Loc} {ls : Array Slot}, fJ7_fill_d0a16_22 k len M = some M1 → Rl E (sh_ b) (nn b) s.heap M H locs → lv_has ls 5 [] → W p l e (rm 1 0 0) s m args below meth c H locs 0 0 (MQ below (qq E none (sh_ b) (nn b) M1) args s 0 0 (fr E)) (F0 m 22 ls []) := by
  obtain ⟨hx, hb, hr, hml, hown, hts, hK, hN, hO, hlk, hbs⟩ := id X
  intro M H locs ls hf hR hl
  unfold fJ7_fill_d0a16_22 at hf
  cases hf
  exact x_vret hx hb hr hlk hR dJ7_fill_d0a16_22
set_option maxHeartbeats 4000000 in
set_option maxRecDepth 100000 in
theorem wJ7_fill_d0a16_0 {M1 : Mem} {k len : Nat} (hk0 : At (sh_ b) (nn b) k (2, len, [])) (X : CX E p s m args c meth cJ7_fill_d0a16 5 none RJ7) : ∀ {y1 : Int64} {M : Mem} {H : Heap} {locs : List Loc} {ls : Array Slot}, fJ7_fill_d0a16 k len y1 M = some M1 → Rl E (sh_ b) (nn b) s.heap M H locs → lv_has ls 5 [(0, .ref (eB E + k)), (1, .long y1)] → W p l e (rm 1 0 0) s m args below meth c H locs 0 0 (MQ below (qq E none (sh_ b) (nn b) M1) args s 0 0 (fr E)) (F0 m 0 ls []) := by
  obtain ⟨hx, hb, hr, hml, hown, hts, hK, hN, hO, hlk, hbs⟩ := id X
  intro y1 M H locs ls hf hR hl
  unfold fJ7_fill_d0a16 at hf
  refine lv_iconst (v := 0) hx hb dJ7_fill_d0a16_0 (by decide) ?_
  refine lv_istore_n (lv' := [(3, .int (0 : Int32)), (0, .ref (eB E + k)), (1, .long y1)]) hx hb dJ7_fill_d0a16_1 rfl hl (by decide) rfl (fun ls hl => ?_)
  refine lv_aload_n hx hb dJ7_fill_d0a16_2 rfl (lv_at hl 1 rfl) ?_
  refine x_alen hx hb hK hR hk0 (Or.inr rfl) dJ7_fill_d0a16_3 ?_
  refine lv_topi (fun v4 e4 => ?_)
  have hf := nx_at e4 hf
  refine lv_istore (lv' := [(4, .int v4), (3, .int (0 : Int32)), (0, .ref (eB E + k)), (1, .long y1)]) hx hb dJ7_fill_d0a16_4 hl (by decide) rfl (fun ls hl => ?_)
  exact wJ7_fill_d0a16_6 hk0 X (fun hf hR hl => wJ7_fill_d0a16_22 hk0 X hf hR hl) FU hf hR (lv_sub hl [2, 3, 1, 0] rfl)
theorem ctJ7_fill_d0a16 {l : Launch} {E : Ge} {b : Bool} {M : Mem} {k len : Nat} (hk0 : At (sh_ b) (nn b) k (2, len, [])) {y1 : Int64} {M1 : Mem} (h : fJ7_fill_d0a16 k len y1 M = some M1) : CT l E yJ7_fill_d0a16 cJ7_fill_d0a16 5 none 1 0 0 [.ref (eB E + k), .long y1] none (sh_ b) (nn b) M (sh_ b) (nn b) M1 := by
  refine met_of (by decide) (Nat.le_of_ble_eq_true rfl) ?_
  intro p e s m args below meth c X _ hR ls hl
  exact wJ7_fill_d0a16_0 hk0 X h hR hl
end WK
