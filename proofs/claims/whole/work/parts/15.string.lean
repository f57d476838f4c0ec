/-! the constants' texts: length and charAt, over the JDK's own methods -/
section TX
variable {p : Program} {l : Launch} {e : Env} {R : Room} {s : State} {m : MethodId} {args : Array Value} {below : List Frame} {meth : Method} {c : Code} {H : Heap} {locs : List Loc} {cells slots : Nat} {Q : State → Prop}
variable {cc : ByteArray} {pc nL : Nat} {ls : Array Slot} {rt : Option FieldType} {E : Ge} {sh : Nat → Sh} {n : Nat} {M : Mem} {own : String}
variable {y : MethodName} {cy : ByteArray} {mL d mc ms na idx : Nat} {ry : Option FieldType} {As rest st0 st1 : List Value} {rv : Option Value} {sh1 : Nat → Sh} {n1 : Nat} {M1 : Mem}
theorem x_nret {v : Int32} {ty : FieldType} (hx : p.tables.exec = Jvm.exec) (hb : c.code = cc) (hr : meth.sig.returnType = some ty) (hn : narrow ty (.int v) = .int v) (hlk : meth.locks = false) (hR : Rl E sh n s.heap M H locs) (hdg : decode cc pc = .ok (.ireturn, 1)) :
    W p l e R s m args below meth c H locs cells slots (MQ below (qq E (some (.int v)) sh n M) args s cells slots (fr E)) (F0 m pc ls [.int v]) :=
  W.zret hx hb hr hn (fun t ht hW => ⟨⟨rfl, by rw [ht]; exact hR.1, by rw [ht]; exact hR.2.2⟩, hR.2.1.F ht⟩) hR.2.1.2.2 hdg hlk
theorem x_callT {w : Nat} (X : CX E p s m args c meth cc nL rt own) (hR : Rl E sh n s.heap M H locs) (hM : CT l E y cy mL ry d mc ms (.ref (E.2.2.1 w) :: As) rv sh n M sh1 n1 M1)
    (w1 : Cond.methodLink own idx y ∈ WS) (w2 : Cond.instanceMethod y ∈ WS) (w3 : Cond.selects RJ0 y y ∈ WS) (w4 : Cond.initialized RJ0 ∈ WS) (w5 : Cond.code y cy mL ry ∈ WS) (hy : yok y na) (hyc : y.cls = RJ0) (hw : w < 26)
    (hroom : (rm d mc ms).frames + 1 ≤ R.frames ∧ 8 + (mL + 11) + (rm d mc ms).locals ≤ R.locals) (hn : As.length = na) (hsz : ls.size = nL) (h0 : st0 = As.reverse ++ .ref (E.2.2.1 w) :: rest) (h1 : rv.toList ++ rest = st1) (hst : (rest.map fun v => v.category).sum ≤ 8) (hdg : decode cc pc = .ok (.invokevirtual idx, 3)) (hf : cells + mc ≤ R.cells ∧ slots + ms ≤ R.slots)
    (kk : ∀ (H1 : Heap) (locs1 : List Loc), Rl E sh1 n1 s.heap M1 H1 locs1 → W p l e R s m args below meth c H1 locs1 (cells + mc) (slots + ms) Q (F0 m (pc + 3) ls st1)) : W p l e R s m args below meth c H locs cells slots Q (F0 m pc ls st0) := by
  obtain ⟨hx, hb, hr, hml, hown, hts, hK, hN, hO, hlk, hbs⟩ := X
  subst h0
  have hG : GoodIn WS (wsV own idx RJ0 y (.code y cy mL ry :: WS)) := by
    intro w hw
    rcases List.mem_append.mp hw with h | h
    · simp only [List.mem_cons, List.not_mem_nil, or_false] at h
      rcases h with rfl | rfl | rfl | rfl
      · exact ws_good _ w1
      · exact ws_good _ w2
      · exact ws_good _ w3
      · exact ws_good _ w4
    · exact good_code w5 w h
  have hrec : ∃ cellB : Cell, H[E.2.2.1 w]? = some cellB ∧ cellB.vm.isStatics = false ∧ s.vm.findClass RJ0 = some cellB.cls := by
    obtain ⟨cell, g1, g2, g3, -⟩ := (hO.1 w hw).1.kept hR.2.1.2.1
    exact ⟨cell, g1, g2, g3⟩
  refine x_go (As := .ref (E.2.2.1 w) :: As) (va_runV (As := As) (rest := rest) ⟨hx, hb, hml, hown, hts⟩ hM (cwV na hts hG rfl rfl rfl ⟨hyc, hy⟩ hroom) ⟨wd_blind E sh n M _, hrec, fun U hU hW => ⟨rfl, wd_now hK hN hO hR U hU hW⟩⟩ rfl hn hsz rfl (lv_room hst) hdg hf) hR hbs h1 kk
end TX
theorem ctJ0_coder {l : Launch} {E : Ge} {sh : Nat → Sh} {n : Nat} {M : Mem} {w : Nat} (hw : w < 26) : CT l E yJ0_coder_7d493 cJ0_coder_7d493 1 (some .byte) 1 0 0 [.ref (E.2.2.1 w)] (some (.int 0)) sh n M sh n M := by
  refine met_of (by decide) (Nat.le_of_ble_eq_true rfl) ?_
  intro p e s m args below meth c X _ hR ls hl
  obtain ⟨hx, hb, hr, hml, hown, hts, hK, hN, hO, hlk, hbs⟩ := id X
  refine va_gets hx hb hO.2.1 hR.2.1 hown (hts _ fl_J0_38) (fun _ h9 => h9) dJ0_coder_7d493_0 ?_
  refine lv_if_eq (tgt := 13) hx hb dJ0_coder_7d493_3 (by decide) (fun q => absurd q (by decide)) (fun q => ?_)
  refine lv_aload_n hx hb dJ0_coder_7d493_6 rfl (lv_at hl 0 rfl) ?_
  refine vk_getf hx hb (hO.1 w hw).2.1 hR.2.1 hown (hts _ fl_J0_15) (fun _ h9 => h9) dJ0_coder_7d493_7 ?_
  refine lv_goto (tgt := 14) hx hb dJ0_coder_7d493_10 (by decide) ?_
  exact x_nret hx hb hr rfl hlk hR dJ0_coder_7d493_14
theorem ctJ0_isLatin1 {l : Launch} {E : Ge} {sh : Nat → Sh} {n : Nat} {M : Mem} {w : Nat} (hw : w < 26) : CT l E yJ0_isLatin1_aae02 cJ0_isLatin1_aae02 1 (some .boolean) 1 0 0 [.ref (E.2.2.1 w)] (some (.int 1)) sh n M sh n M := by
  refine met_of (by decide) (Nat.le_of_ble_eq_true rfl) ?_
  intro p e s m args below meth c X _ hR ls hl
  obtain ⟨hx, hb, hr, hml, hown, hts, hK, hN, hO, hlk, hbs⟩ := id X
  refine va_gets hx hb hO.2.1 hR.2.1 hown (hts _ fl_J0_38) (fun _ h9 => h9) dJ0_isLatin1_aae02_0 ?_
  refine lv_if_eq (tgt := 17) hx hb dJ0_isLatin1_aae02_3 (by decide) (fun q => absurd q (by decide)) (fun q => ?_)
  refine lv_aload_n hx hb dJ0_isLatin1_aae02_6 rfl (lv_at hl 0 rfl) ?_
  refine vk_getf hx hb (hO.1 w hw).2.1 hR.2.1 hown (hts _ fl_J0_15) (fun _ h9 => h9) dJ0_isLatin1_aae02_7 ?_
  refine lv_if_ne (tgt := 17) hx hb dJ0_isLatin1_aae02_10 (by decide) (fun q => absurd rfl q) (fun q => ?_)
  refine lv_iconst (v := 1) hx hb dJ0_isLatin1_aae02_13 (by decide) ?_
  refine lv_goto (tgt := 18) hx hb dJ0_isLatin1_aae02_14 (by decide) ?_
  exact x_nret hx hb hr rfl hlk hR dJ0_isLatin1_aae02_18
theorem ctJ3_checkIndex {l : Launch} {E : Ge} {sh : Nat → Sh} {n : Nat} {M : Mem} {i k : Int32} {r : Option Nat} (h0 : ¬ i < 0) (h1 : i < k) : CT l E yJ3_checkIndex_8e157 cJ3_checkIndex_8e157 3 (some .int) 1 0 0 [.int i, .int k, va_rf r] (some (.int i)) sh n M sh n M := by
  refine met_of (by decide) ?_ ?_
  · cases r <;> exact Nat.le_of_ble_eq_true rfl
  intro p e s m args below meth c X _ hR ls hl
  obtain ⟨hx, hb, hr, hml, hown, hts, hK, hN, hO, hlk, hbs⟩ := id X
  have hl : lv_has ls 3 [(0, .int i), (1, .int k), (2, va_rf r)] := hl
  refine lv_iload_n hx hb dJ3_checkIndex_8e157_0 rfl (lv_at hl 0 rfl) ?_
  refine lv_if_lt (tgt := 9) hx hb dJ3_checkIndex_8e157_1 (by decide) (fun q => absurd q h0) (fun q => ?_)
  refine lv_iload_n hx hb dJ3_checkIndex_8e157_4 rfl (lv_at hl 0 rfl) ?_
  refine lv_iload_n hx hb dJ3_checkIndex_8e157_5 rfl (lv_at hl 1 rfl) ?_
  refine lv_icmp_lt (tgt := 16) hx hb dJ3_checkIndex_8e157_6 (by decide) (fun q => ?_) (fun q => absurd h1 q)
  refine lv_iload_n hx hb dJ3_checkIndex_8e157_16 rfl (lv_at hl 0 rfl) ?_
  exact x_iret hx hb hr hlk hR dJ3_checkIndex_8e157_17
theorem ctJ0_checkIndex {l : Launch} {E : Ge} {sh : Nat → Sh} {n : Nat} {M : Mem} {i k : Int32} (h0 : ¬ i < 0) (h1 : i < k) : CT l E yJ0_checkIndex_df160 cJ0_checkIndex_df160 2 none 2 0 0 [.int i, .int k] none sh n M sh n M := by
  refine met_of (by decide) (Nat.le_of_ble_eq_true rfl) ?_
  intro p e s m args below meth c X _ hR ls hl
  obtain ⟨hx, hb, hr, hml, hown, hts, hK, hN, hO, hlk, hbs⟩ := id X
  refine lv_iload_n hx hb dJ0_checkIndex_df160_0 rfl (lv_at hl 0 rfl) ?_
  refine lv_iload_n hx hb dJ0_checkIndex_df160_1 rfl (lv_at hl 1 rfl) ?_
  have hz : ∃ r : Option Nat, va_Z "jdk/internal/util/Preconditions" "SIOOBE_FORMATTER" "Ljava/util/function/BiFunction;" (va_rf r) (fr E) s s.heap := by
    rcases hO.2.2 with h | ⟨t, h⟩
    · exact ⟨none, h⟩
    · exact ⟨some t, h⟩
  obtain ⟨r, hz⟩ := hz
  refine va_gets hx hb hz hR.2.1 hown (hts _ fl_J0_1053) (fun _ h9 => h9) dJ0_checkIndex_df160_2 ?_
  refine x_callS (As := [.int i, .int k, va_rf r]) (rest := []) (st1 := [.int i]) X hR (ctJ3_checkIndex h0 h1) ml_J0_1059 st_J3_checkIndex_8e157 in_J3 co_J3_checkIndex_8e157 yo_J3_checkIndex_8e157 (rm_ok (by decide) (by decide)) rfl hl.1 rfl rfl (Nat.le_of_ble_eq_true rfl) dJ0_checkIndex_df160_5 ⟨Nat.zero_le _, Nat.zero_le _⟩ (fun H locs hR => ?_)
  refine lv_pop hx hb dJ0_checkIndex_df160_8 rfl ?_
  exact x_vret hx hb hr hlk hR dJ0_checkIndex_df160_9
/-- the char at a place of a constant -/
def sch (w j : Nat) : Int32 := (((stByt.getD w []).getD j 0) &&& 255)
theorem sch_nar (b : Int32) : narrow .char (.int ((b &&& 255).toUInt32 % 65536).toInt32) = .int (b &&& 255) := by
  rw [sc_c2]; exact sc_nar b
theorem ctJ1_charAt {l : Launch} {E : Ge} {sh : Nat → Sh} {n : Nat} {M : Mem} {w : Nat} {i : Int32} (hw : w < 26) (hi : inb i (stLen.getD w 0) = true) : CT l E yJ1_charAt_3b067 cJ1_charAt_3b067 2 (some .char) 3 0 0 [.ref (E.2.2.2.1 w), .int i] (some (.int (sch w (ix i)))) sh n M sh n M := by
  refine met_of (by decide) (Nat.le_of_ble_eq_true rfl) ?_
  intro p e s m args below meth c X _ hR ls hl
  obtain ⟨hx, hb, hr, hml, hown, hts, hK, hN, hO, hlk, hbs⟩ := id X
  have hin := inb_in hi
  have hL : ∀ w, w < 26 → stLen.getD w 0 < 2 ^ 31 := by decide
  obtain ⟨j, hj, ej⟩ := vp_in_of hin (hL w hw)
  refine lv_iload_n hx hb dJ1_charAt_3b067_0 rfl (lv_at hl 1 rfl) ?_
  refine lv_aload_n hx hb dJ1_charAt_3b067_1 rfl (lv_at hl 0 rfl) ?_
  refine va_tlen hx hb (hO.1 w hw).2.2.2 hR.2.1 rfl dJ1_charAt_3b067_2 ?_
  refine x_callS (As := [.int i, .int (Int32.ofNat (stLen.getD w 0))]) (rest := []) (st1 := []) X hR (ctJ0_checkIndex (fun q => hin (Or.inl q)) (by rw [ej]; exact nI_lt hj (hL w hw))) ml_J1_9 st_J0_checkIndex_df160 in_J0 co_J0_checkIndex_df160 yo_J0_checkIndex_df160 (rm_ok (by decide) (by decide)) rfl hl.1 rfl rfl (Nat.le_of_ble_eq_true rfl) dJ1_charAt_3b067_3 ⟨Nat.zero_le _, Nat.zero_le _⟩ (fun H locs hR => ?_)
  refine lv_aload_n hx hb dJ1_charAt_3b067_6 rfl (lv_at hl 0 rfl) ?_
  refine lv_iload_n hx hb dJ1_charAt_3b067_7 rfl (lv_at hl 1 rfl) ?_
  refine va_tb hx hb (hO.1 w hw).2.2.2 hR.2.1 hin rfl dJ1_charAt_3b067_8 ?_
  refine lv_sipush (v := 255) hx hb dJ1_charAt_3b067_9 (by decide) ?_
  refine lv_iand hx hb dJ1_charAt_3b067_12 ?_
  refine lv_i2c (v := sch w (ix i)) hx hb dJ1_charAt_3b067_13 (sc_c2 _) ?_
  exact x_nret hx hb hr (sc_nar _) hlk hR dJ1_charAt_3b067_14
def fJ0_length_8abf5 (M : Mem) (w : Nat) : Option Int32 := some (nI (stLen.getD w 0))
def fJ0_charAt_5068e (M : Mem) (w : Nat) (x1 : Int32) : Option Int32 := if inb x1 (stLen.getD w 0) = true then some (sch w (ix x1)) else none
theorem ctJ0_length_8abf5 {l : Launch} {E : Ge} {b : Bool} {M : Mem} {w : Nat} (hw : w < 26) {r : Int32} (h : fJ0_length_8abf5 M w = some r) : CT l E yJ0_length_8abf5 cJ0_length_8abf5 1 (some .int) 6 0 0 [.ref (E.2.2.1 w)] (some (.int r)) (sh_ b) (nn b) M (sh_ b) (nn b) M := by
  refine met_of (by decide) (Nat.le_of_ble_eq_true rfl) ?_
  intro p e s m args below meth c X _ hR ls hl
  obtain ⟨hx, hb, hr, hml, hown, hts, hK, hN, hO, hlk, hbs⟩ := id X
  have hL : ∀ w, w < 26 → stLen.getD w 0 < 2 ^ 31 := by decide
  refine lv_aload_n hx hb dJ0_length_8abf5_0 rfl (lv_at hl 0 rfl) ?_
  refine vk_getf hx hb (hO.1 w hw).2.2.1 hR.2.1 hown (hts _ fl_J0_9) (fun _ h9 => h9) dJ0_length_8abf5_1 ?_
  refine va_tlen hx hb (hO.1 w hw).2.2.2 hR.2.1 rfl dJ0_length_8abf5_4 ?_
  refine lv_aload_n hx hb dJ0_length_8abf5_5 rfl (lv_at hl 0 rfl) ?_
  refine x_callT (As := []) (rest := [.int (Int32.ofNat (stLen.getD w 0))]) (st1 := [.int 0, .int (Int32.ofNat (stLen.getD w 0))]) X hR (ctJ0_coder hw) ml_J0_335 im_J0_coder_7d493 se_J0_coder_7d493 in_J0 co_J0_coder_7d493 yo_J0_coder_7d493 rfl hw (rm_ok (by decide) (by decide)) rfl hl.1 rfl rfl (Nat.le_of_ble_eq_true rfl) dJ0_length_8abf5_6 ⟨Nat.zero_le _, Nat.zero_le _⟩ (fun H locs hR => ?_)
  refine lv_ishr hx hb dJ0_length_8abf5_9 ?_
  have e1 : Int32.ofNat (stLen.getD w 0) >>> ((0 : Int32) &&& 31) = r := by
    have e2 := sc_shr0 (hL w hw)
    unfold fJ0_length_8abf5 at h
    exact e2.trans (Option.some.inj h)
  rw [e1]
  exact x_iret hx hb hr hlk hR dJ0_length_8abf5_10
theorem ctJ0_charAt_5068e {l : Launch} {E : Ge} {b : Bool} {M : Mem} {w : Nat} (hw : w < 26) {x1 r : Int32} (h : fJ0_charAt_5068e M w x1 = some r) : CT l E yJ0_charAt_5068e cJ0_charAt_5068e 2 (some .char) 6 0 0 [.ref (E.2.2.1 w), .int x1] (some (.int r)) (sh_ b) (nn b) M (sh_ b) (nn b) M := by
  refine met_of (by decide) (Nat.le_of_ble_eq_true rfl) ?_
  intro p e s m args below meth c X _ hR ls hl
  obtain ⟨hx, hb, hr, hml, hown, hts, hK, hN, hO, hlk, hbs⟩ := id X
  unfold fJ0_charAt_5068e at h
  obtain ⟨hi, h⟩ := br_g h
  cases h
  refine lv_aload_n hx hb dJ0_charAt_5068e_0 rfl (lv_at hl 0 rfl) ?_
  refine x_callT (As := []) (rest := []) (st1 := [.int 1]) X hR (ctJ0_isLatin1 hw) ml_J0_492 im_J0_isLatin1_aae02 se_J0_isLatin1_aae02 in_J0 co_J0_isLatin1_aae02 yo_J0_isLatin1_aae02 rfl hw (rm_ok (by decide) (by decide)) rfl hl.1 rfl rfl (Nat.le_of_ble_eq_true rfl) dJ0_charAt_5068e_1 ⟨Nat.zero_le _, Nat.zero_le _⟩ (fun H locs hR => ?_)
  refine lv_if_eq (tgt := 16) hx hb dJ0_charAt_5068e_4 (by decide) (fun q => absurd q (by decide)) (fun q => ?_)
  refine lv_aload_n hx hb dJ0_charAt_5068e_7 rfl (lv_at hl 0 rfl) ?_
  refine vk_getf hx hb (hO.1 w hw).2.2.1 hR.2.1 hown (hts _ fl_J0_9) (fun _ h9 => h9) dJ0_charAt_5068e_8 ?_
  refine lv_iload_n hx hb dJ0_charAt_5068e_11 rfl (lv_at hl 1 rfl) ?_
  refine x_callS (As := [.ref (E.2.2.2.1 w), .int x1]) (rest := []) (st1 := [.int (sch w (ix x1))]) X hR (ctJ1_charAt hw hi) ml_J0_495 st_J1_charAt_3b067 in_J1 co_J1_charAt_3b067 yo_J1_charAt_3b067 (rm_ok (by decide) (by decide)) rfl hl.1 rfl rfl (Nat.le_of_ble_eq_true rfl) dJ0_charAt_5068e_12 ⟨Nat.zero_le _, Nat.zero_le _⟩ (fun H locs hR => ?_)
  exact x_nret hx hb hr (sc_nar _) hlk hR dJ0_charAt_5068e_15
/-- the names of the measures, by their places -/
def msN (j : Nat) : Nat := ([0, 1, 2, 3] : List Nat).getD j 0
theorem msN_ok {i : Int32} (h : inb i 4 = true) : ([some 0, some 1, some 2, some 3] : List (Option Nat)).getD (ix i) none = some (msN (ix i)) := by
  have h1 : ix i < 4 := Nat.not_le.mp fun q => inb_in h (Or.inr q)
  have h2 : ∀ j, j < 4 → ([some 0, some 1, some 2, some 3] : List (Option Nat)).getD j none = some (msN j) := by decide
  exact h2 _ h1
theorem msN_lt (j : Nat) : msN j < 26 := by
  have h2 : ∀ j, j < 4 → msN j < 26 := by decide
  by_cases h : j < 4
  · exact h2 j h
  · unfold msN
    rw [List.getD_eq_getElem?_getD, List.getElem?_eq_none (by simpa using Nat.le_of_not_lt h)]
    decide
theorem ix_lt {i : Int32} {n : Nat} (h : inb i n = true) : ix i < n := Nat.not_le.mp fun q => inb_in h (Or.inr q)
theorem zr_100 (b : Bool) {i : Int32} (h : inb i 40 = true) : At (sh_ b) (nn b) (101 + ix i) (1, 9, []) := by
  have h2 : ∀ j, j < 40 → sh_ true (101 + j) = (1, 9, []) ∧ sh_ false (101 + j) = (1, 9, []) := by decide
  have h3 := h2 _ (ix_lt h)
  exact ⟨by cases b; exact h3.2; exact h3.1, nn_lt b (by have := ix_lt h; omega)⟩
theorem zq_100 {i : Int32} (h : inb i 40 = true) : ([some 101, some 102, some 103, some 104, some 105, some 106, some 107, some 108, some 109, some 110, some 111, some 112, some 113, some 114, some 115, some 116, some 117, some 118, some 119, some 120, some 121, some 122, some 123, some 124, some 125, some 126, some 127, some 128, some 129, some 130, some 131, some 132, some 133, some 134, some 135, some 136, some 137, some 138, some 139, some 140] : List (Option Nat)).getD (ix i) none = some (101 + ix i) := by
  have h2 : ∀ j, j < 40 → ([some 101, some 102, some 103, some 104, some 105, some 106, some 107, some 108, some 109, some 110, some 111, some 112, some 113, some 114, some 115, some 116, some 117, some 118, some 119, some 120, some 121, some 122, some 123, some 124, some 125, some 126, some 127, some 128, some 129, some 130, some 131, some 132, some 133, some 134, some 135, some 136, some 137, some 138, some 139, some 140] : List (Option Nat)).getD j none = some (101 + j) := by decide
  exact h2 _ (ix_lt h)
theorem zr_88 (b : Bool) {i : Int32} (h : inb i 8 = true) : At (sh_ b) (nn b) (89 + ix i) (2, 8, []) := by
  have h2 : ∀ j, j < 8 → sh_ true (89 + j) = (2, 8, []) ∧ sh_ false (89 + j) = (2, 8, []) := by decide
  have h3 := h2 _ (ix_lt h)
  exact ⟨by cases b; exact h3.2; exact h3.1, nn_lt b (by have := ix_lt h; omega)⟩
theorem zq_88 {i : Int32} (h : inb i 8 = true) : ([some 89, some 90, some 91, some 92, some 93, some 94, some 95, some 96] : List (Option Nat)).getD (ix i) none = some (89 + ix i) := by
  have h2 : ∀ j, j < 8 → ([some 89, some 90, some 91, some 92, some 93, some 94, some 95, some 96] : List (Option Nat)).getD j none = some (89 + j) := by decide
  exact h2 _ (ix_lt h)
