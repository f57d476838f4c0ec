def st_0 (Inv : Nat → Bool → Mem → Prop) : Prop := ∀ (t : Nat) (b : Bool) (M : Mem) (a1 a2 a3 a4 a5 : Int32), t < 512 → Inv t b M → ∃ (r : Int32) (M1 : Mem) (M2 : Mem), fX10_feed a1 a2 a3 a4 a5 M = some (r, M1) ∧ fX11_feed a1 a2 a3 a4 a5 M1 = some (r, M2) ∧ Inv (t + 1) b M2
def st_1 (Inv : Nat → Bool → Mem → Prop) : Prop := ∀ (t : Nat) (b : Bool) (M : Mem) (a1 : Int32), t < 512 → Inv t b M → ∃ (r : Int32) (M1 : Mem) (M2 : Mem), fX10_end a1 M = some (r, M1) ∧ fX11_end a1 M1 = some (r, M2) ∧ Inv (t + 1) b M2
def st_2 (Inv : Nat → Bool → Mem → Prop) : Prop := ∀ (t : Nat) (b : Bool) (M : Mem), t < 512 → Inv t b M → ∃ (r : Int32) (M1 : Mem) (M2 : Mem), fX10_fault M = some (r, M1) ∧ fX11_fault M1 = some (r, M2) ∧ Inv (t + 1) b M2
def st_3 (Inv : Nat → Bool → Mem → Prop) : Prop := ∀ (t : Nat) (b : Bool) (M : Mem), t < 512 → Inv t b M → ∃ (r : Int32) (M1 : Mem) (M2 : Mem), fX10_sheet M = some (r, M1) ∧ fX11_sheet M1 = some (r, M2) ∧ Inv (t + 1) b M2
def st_4 (Inv : Nat → Bool → Mem → Prop) : Prop := ∀ (t : Nat) (b : Bool) (M : Mem) (a1 a2 : Int32), t < 512 → Inv t b M → ∃ (r : Int32), fX10_voter M a1 a2 = some r ∧ fX11_voter M a1 a2 = some r ∧ Inv (t + 1) b M
def st_5 (Inv : Nat → Bool → Mem → Prop) : Prop := ∀ (t : Nat) (b : Bool) (M : Mem) (a1 a2 : Int32), t < 512 → Inv t b M → ∃ (r : Int32), fX10_place M a1 a2 = some r ∧ fX11_place M a1 a2 = some r ∧ Inv (t + 1) b M
def st_6 (Inv : Nat → Bool → Mem → Prop) : Prop := ∀ (t : Nat) (b : Bool) (M : Mem) (a1 a2 : Int32), t < 512 → Inv t b M → ∃ (r : Int32) (M1 : Mem) (M2 : Mem), fX10_propose a1 a2 M = some (r, M1) ∧ fX11_propose a1 a2 M1 = some (r, M2) ∧ Inv (t + 1) b M2
def st_7 (Inv : Nat → Bool → Mem → Prop) : Prop := ∀ (t : Nat) (b : Bool) (M : Mem) (a1 a2 a3 : Int32), t < 512 → Inv t b M → ∃ (r : Int32), fX10_way M a1 a2 a3 = some r ∧ fX11_way M a1 a2 a3 = some r ∧ Inv (t + 1) b M
def st_8 (Inv : Nat → Bool → Mem → Prop) : Prop := ∀ (t : Nat) (b : Bool) (M : Mem) (a1 a2 : Int32), t < 512 → Inv t b M → ∃ (r : Int32) (M1 : Mem), fX10_votes a1 a2 M = some (r, M1) ∧ fX11_votes M1 a1 a2 = some r ∧ Inv (t + 1) b M1
def st_9 (Inv : Nat → Bool → Mem → Prop) : Prop := ∀ (t : Nat) (b : Bool) (M : Mem) (a1 a2 : Int32), t < 512 → Inv t b M → ∃ (r : Int32) (M1 : Mem), fX10_beats a1 a2 M = some (r, M1) ∧ fX11_beats M1 a1 a2 = some r ∧ Inv (t + 1) b M1
def st_10 (Inv : Nat → Bool → Mem → Prop) : Prop := ∀ (t : Nat) (b : Bool) (M : Mem) (a1 a2 : Int32), t < 512 → Inv t b M → ∃ (r : Int32), fX10_wins M a1 a2 = some r ∧ fX11_wins M a1 a2 = some r ∧ Inv (t + 1) b M
def st_11 (Inv : Nat → Bool → Mem → Prop) : Prop := ∀ (t : Nat) (b : Bool) (M : Mem) (a1 a2 : Int32), t < 512 → Inv t b M → ∃ (r : Int32) (M1 : Mem) (M2 : Mem), fX10_line a1 a2 M = some (r, M1) ∧ fX11_line a1 a2 M1 = some (r, M2) ∧ Inv (t + 1) b M2
def st_12 (Inv : Nat → Bool → Mem → Prop) : Prop := ∀ (t : Nat) (b : Bool) (M : Mem) (a1 a2 : Int32), t < 512 → Inv t b M → ∃ (r : Int32) (M1 : Mem) (M2 : Mem), fX10_middle a1 a2 M = some (r, M1) ∧ fX11_middle a1 a2 M1 = some (r, M2) ∧ Inv (t + 1) b M2
def st_13 (Inv : Nat → Bool → Mem → Prop) : Prop := ∀ (t : Nat) (b : Bool) (M : Mem) (a1 : Int32), t < 512 → Inv t b M → ∃ (r : Int32) (M1 : Mem) (M2 : Mem), fX10_proof a1 M = some (r, M1) ∧ fX11_proof a1 M1 = some (r, M2) ∧ Inv (t + 1) b M2
def st_14 (Inv : Nat → Bool → Mem → Prop) : Prop := ∀ (t : Nat) (b : Bool) (M : Mem) (a1 : Int32), t < 512 → Inv t b M → ∃ (r : Int32) (M1 : Mem) (M2 : Mem), fX10_round a1 M = some (r, M1) ∧ fX11_round a1 M1 = some (r, M2) ∧ Inv (t + 1) b M2
def st_15 (Inv : Nat → Bool → Mem → Prop) : Prop := ∀ (t : Nat) (b : Bool) (M : Mem) (a1 a2 a3 : Int32), t < 512 → Inv t b M → (b = true ∧ ∃ (r : Int32) (M1 : Mem) (M2 : Mem), fX10_winSet_T a1 a2 a3 M = some (r, M1) ∧ fX11_winSet a1 a2 a3 M1 = some (r, M2) ∧ Inv (t + 1) true M2) ∨ (b = false ∧ ∃ (r : Int32) (M2 : Mem), fX10_winSet_E M a1 a2 a3 = some r ∧ fX11_winSet a1 a2 a3 M = some (r, M2) ∧ Inv (t + 1) false M2) ∨ (b = false ∧ ∃ (r : Int32) (M1 : Mem) (M2 : Mem), fX10_winSet_F a1 a2 a3 M = some (r, M1) ∧ fX11_winSet a1 a2 a3 M1 = some (r, M2) ∧ Inv (t + 1) true M2)
def st_16 (Inv : Nat → Bool → Mem → Prop) : Prop := ∀ (t : Nat) (b : Bool) (M : Mem) (a1 a2 a3 a4 : Int32), t < 512 → Inv t b M → (b = true ∧ ∃ (r : Int32) (M1 : Mem) (M2 : Mem), fX10_piece_T a1 a2 a3 a4 M = some (r, M1) ∧ fX11_piece a1 a2 a3 a4 M1 = some (r, M2) ∧ Inv (t + 1) true M2) ∨ (b = false ∧ ∃ (r : Int32) (M2 : Mem), fX10_piece_E M a1 a2 a3 a4 = some r ∧ fX11_piece a1 a2 a3 a4 M = some (r, M2) ∧ Inv (t + 1) false M2) ∨ (b = false ∧ ∃ (r : Int32) (M1 : Mem) (M2 : Mem), fX10_piece_F a1 a2 a3 a4 M = some (r, M1) ∧ fX11_piece a1 a2 a3 a4 M1 = some (r, M2) ∧ Inv (t + 1) true M2)
def st_17 (Inv : Nat → Bool → Mem → Prop) : Prop := ∀ (t : Nat) (b : Bool) (M : Mem) (a1 a2 a3 : Int32), t < 512 → Inv t b M → ∃ (r : Int32) (M1 : Mem) (M2 : Mem), fX10_led a1 a2 a3 M = some (r, M1) ∧ fX11_led a1 a2 a3 M1 = some (r, M2) ∧ Inv (t + 1) b M2
def st_18 (Inv : Nat → Bool → Mem → Prop) : Prop := ∀ (t : Nat) (b : Bool) (M : Mem) (a1 : Int32), t < 512 → Inv t b M → ∃ (r : Int32) (M1 : Mem) (M2 : Mem), fX10_best a1 M = some (r, M1) ∧ fX11_best a1 M1 = some (r, M2) ∧ Inv (t + 1) b M2
def st_19 (Inv : Nat → Bool → Mem → Prop) : Prop := ∀ (t : Nat) (b : Bool) (M : Mem) (a1 a2 : Int32), t < 512 → Inv t b M → (b = true ∧ ∃ (r : Int32) (M1 : Mem), fX10_between_T a1 a2 M = some (r, M1) ∧ fX11_between M1 a1 a2 = some r ∧ Inv (t + 1) true M1) ∨ (b = false ∧ ∃ (r : Int32), fX10_between_E M a1 a2 = some r ∧ fX11_between M a1 a2 = some r ∧ Inv (t + 1) false M) ∨ (b = false ∧ ∃ (r : Int32) (M1 : Mem), fX10_between_F a1 a2 M = some (r, M1) ∧ fX11_between M1 a1 a2 = some r ∧ Inv (t + 1) true M1)
def st_20 (Inv : Nat → Bool → Mem → Prop) : Prop := ∀ (t : Nat) (b : Bool) (M : Mem), t < 512 → Inv t b M → ∃ (r : Int32) (M1 : Mem), fX10_rest M = some (r, M1) ∧ fX11_rest M1 = some r ∧ Inv (t + 1) b M1
def st_21 (Inv : Nat → Bool → Mem → Prop) : Prop := ∀ (t : Nat) (b : Bool) (M : Mem) (a1 : Int32), t < 512 → Inv t b M → ∃ (r : Int32) (M1 : Mem) (M2 : Mem), fX10_lot a1 M = some (r, M1) ∧ fX11_lot a1 M1 = some (r, M2) ∧ Inv (t + 1) b M2
def st_22 (Inv : Nat → Bool → Mem → Prop) : Prop := ∀ (t : Nat) (b : Bool) (M : Mem) (a1 : Int32), t < 512 → Inv t b M → ∃ (r : Int32) (M1 : Mem), fX10_need a1 M = some (r, M1) ∧ fX11_need M1 a1 = some r ∧ Inv (t + 1) b M1
def st_23 (Inv : Nat → Bool → Mem → Prop) : Prop := ∀ (t : Nat) (b : Bool) (M : Mem) (a1 a2 : Int32), t < 512 → Inv t b M → (b = true ∧ ∃ (r : Int32) (M1 : Mem), fX10_most_T a1 a2 M = some (r, M1) ∧ fX11_most M1 a1 a2 = some r ∧ Inv (t + 1) true M1) ∨ (b = false ∧ ∃ (r : Int32), fX10_most_E M a1 a2 = some r ∧ fX11_most M a1 a2 = some r ∧ Inv (t + 1) false M) ∨ (b = false ∧ ∃ (r : Int32) (M1 : Mem), fX10_most_F a1 a2 M = some (r, M1) ∧ fX11_most M1 a1 a2 = some r ∧ Inv (t + 1) true M1)
def st_24 (Inv : Nat → Bool → Mem → Prop) : Prop := ∀ (t : Nat) (b : Bool) (M : Mem), t < 512 → Inv t b M → ∃ (r : Int32) (M1 : Mem), fX10_peace M = some (r, M1) ∧ fX11_peace M1 = some r ∧ Inv (t + 1) b M1
def st_25 (Inv : Nat → Bool → Mem → Prop) : Prop := ∀ (t : Nat) (b : Bool) (M : Mem) (a1 : Int32), t < 512 → Inv t b M → ∃ (r : Int32) (M1 : Mem) (M2 : Mem), fX10_make a1 M = some (r, M1) ∧ fX11_make a1 M1 = some (r, M2) ∧ Inv (t + 1) b M2
def st_26 (Inv : Nat → Bool → Mem → Prop) : Prop := ∀ (t : Nat) (b : Bool) (M : Mem) (a1 : Int32), t < 512 → Inv t b M → ∃ (r : Int32) (M1 : Mem) (M2 : Mem), fX10_join a1 M = some (r, M1) ∧ fX11_join a1 M1 = some (r, M2) ∧ Inv (t + 1) b M2
def st_27 (Inv : Nat → Bool → Mem → Prop) : Prop := ∀ (t : Nat) (b : Bool) (M : Mem) (a1 a2 : Int32), t < 512 → Inv t b M → ∃ (r : Int32) (M2 : Mem), fX10_doubt M a1 a2 = some r ∧ fX11_doubt a1 a2 M = some (r, M2) ∧ Inv (t + 1) b M2
def st_28 (Inv : Nat → Bool → Mem → Prop) : Prop := ∀ (t : Nat) (b : Bool) (M : Mem) (a1 a2 a3 : Int32), t < 512 → Inv t b M → ∃ (r : Int32) (M1 : Mem) (M2 : Mem), fX10_move a1 a2 a3 M = some (r, M1) ∧ fX11_move a1 a2 a3 M1 = some (r, M2) ∧ Inv (t + 1) b M2
def st_29 (Inv : Nat → Bool → Mem → Prop) : Prop := ∀ (t : Nat) (b : Bool) (M : Mem), t < 512 → Inv t b M → ∃ (r : Int32) (M1 : Mem) (M2 : Mem), fX10_undo M = some (r, M1) ∧ fX11_undo M1 = some (r, M2) ∧ Inv (t + 1) b M2
def st_30 (Inv : Nat → Bool → Mem → Prop) : Prop := ∀ (t : Nat) (b : Bool) (M : Mem) (a1 a2 : Int32), t < 512 → Inv t b M → ∃ (r : Int32), fX10_moved M a1 a2 = some r ∧ fX11_moved M a1 a2 = some r ∧ Inv (t + 1) b M
def st_31 (Inv : Nat → Bool → Mem → Prop) : Prop := ∀ (t : Nat) (b : Bool) (M : Mem) (a1 : Int32), t < 512 → Inv t b M → ∃ (r : Int32) (M1 : Mem), fX10_count a1 M = some (r, M1) ∧ fX11_count M1 a1 = some r ∧ Inv (t + 1) b M1
def lc (b : Bool) : Nat := if b then 147 else 141
def lsl (b : Bool) : Nat := if b then 86473 else 41461
section LC
variable {p : Program} {l : Launch} {e : Env} {s : State} {m : MethodId} {below : List Frame} {meth : Method} {c : Code} {E : Ge} {b0 L : Nat} {xs : Nat → Int32} {Inv : Nat → Bool → Mem → Prop} {Q : State → Prop} {x3 : Int32}
set_option maxHeartbeats 4000000 in
set_option maxRecDepth 100000 in
theorem lc_0 (hst : st_0 Inv) (X : CX E p s m #[Value.ref b0] c meth code 4 ret RL) (hXs : va_X b0 L xs s s.heap) (hbl : b0 < s.heap.size) (hE : ¬ fr E b0) (h1 : vp_in (x3 + 1) L) (h2 : vp_in (x3 + 2) L) (h3 : vp_in (x3 + 3) L) (h4 : vp_in (x3 + 4) L) (h5 : vp_in (x3 + 5) L) {t : Nat} {b : Bool} {M : Mem} {H : Heap} {locs : List Loc} {ls : Array Slot} (ht : t < 512) (hI : Inv t b M) (hR : Rl E (sh_ b) (nn b) s.heap M H locs) (hl : lv_has ls 4 [(0, .ref b0), (1, .ref (eB E + 0)), (2, .ref (eB E + 47)), (3, .int x3)])
    (kk : ∀ (b : Bool) (M : Mem) (H : Heap) (locs : List Loc), Inv (t + 1) b M → Rl E (sh_ b) (nn b) s.heap M H locs → W p l e room_1 s m #[Value.ref b0] below meth c H locs (lc b) (lsl b) Q (F0 m 1132 ls [])) : W p l e room_1 s m #[Value.ref b0] below meth c H locs (lc b) (lsl b) Q (F0 m 176 ls []) := by
  obtain ⟨hx, hb, hr, hml, hown, hts, hK, hN, hO, hlk, hbs⟩ := id X
  obtain ⟨r, M1, M2, g1, g2, g3⟩ := hst t b M (xs (ix (x3 + 1))) (xs (ix (x3 + 2))) (xs (ix (x3 + 3))) (xs (ix (x3 + 4))) (xs (ix (x3 + 5))) ht hI
  refine lv_aload_n hx hb dL_law_176 rfl (lv_at hl 1 rfl) ?_
  refine lv_aload_n hx hb dL_law_177 rfl (lv_at hl 0 rfl) ?_
  refine lv_iload_n hx hb dL_law_178 rfl (lv_at hl 3 rfl) ?_
  refine lv_iconst (v := 1) hx hb dL_law_179 (by decide) ?_
  refine lv_iadd hx hb dL_law_180 ?_
  refine va_sld hx hb hXs hbl hE hR.2.1 h1 dL_law_181 ?_
  refine lv_aload_n hx hb dL_law_182 rfl (lv_at hl 0 rfl) ?_
  refine lv_iload_n hx hb dL_law_183 rfl (lv_at hl 3 rfl) ?_
  refine lv_iconst (v := 2) hx hb dL_law_184 (by decide) ?_
  refine lv_iadd hx hb dL_law_185 ?_
  refine va_sld hx hb hXs hbl hE hR.2.1 h2 dL_law_186 ?_
  refine lv_aload_n hx hb dL_law_187 rfl (lv_at hl 0 rfl) ?_
  refine lv_iload_n hx hb dL_law_188 rfl (lv_at hl 3 rfl) ?_
  refine lv_iconst (v := 3) hx hb dL_law_189 (by decide) ?_
  refine lv_iadd hx hb dL_law_190 ?_
  refine va_sld hx hb hXs hbl hE hR.2.1 h3 dL_law_191 ?_
  refine lv_aload_n hx hb dL_law_192 rfl (lv_at hl 0 rfl) ?_
  refine lv_iload_n hx hb dL_law_193 rfl (lv_at hl 3 rfl) ?_
  refine lv_iconst (v := 4) hx hb dL_law_194 (by decide) ?_
  refine lv_iadd hx hb dL_law_195 ?_
  refine va_sld hx hb hXs hbl hE hR.2.1 h4 dL_law_196 ?_
  refine lv_aload_n hx hb dL_law_197 rfl (lv_at hl 0 rfl) ?_
  refine lv_iload_n hx hb dL_law_198 rfl (lv_at hl 3 rfl) ?_
  refine lv_iconst (v := 5) hx hb dL_law_199 (by decide) ?_
  refine lv_iadd hx hb dL_law_200 ?_
  refine va_sld hx hb hXs hbl hE hR.2.1 h5 dL_law_201 ?_
  refine x_callV (k := 0) (As := [.int (xs (ix (x3 + 1))), .int (xs (ix (x3 + 2))), .int (xs (ix (x3 + 3))), .int (xs (ix (x3 + 4))), .int (xs (ix (x3 + 5)))]) (rest := []) (st1 := [.int r]) X hR (ctX10_feed g1) ml_L_13 im_X10_feed se_X10_feed in_X10 co_X10_feed yo_X10_feed rfl kX10 (z_0 b) ⟨Nat.le_of_ble_eq_true rfl, Nat.le_of_ble_eq_true rfl⟩ rfl hl.1 rfl rfl (Nat.le_of_ble_eq_true rfl) dL_law_202 (by cases b <;> exact ⟨by decide, by decide⟩) (fun H locs hR => ?_)
  refine lv_aload_n hx hb dL_law_205 rfl (lv_at hl 2 rfl) ?_
  refine lv_aload_n hx hb dL_law_206 rfl (lv_at hl 0 rfl) ?_
  refine lv_iload_n hx hb dL_law_207 rfl (lv_at hl 3 rfl) ?_
  refine lv_iconst (v := 1) hx hb dL_law_208 (by decide) ?_
  refine lv_iadd hx hb dL_law_209 ?_
  refine va_sld hx hb hXs hbl hE hR.2.1 h1 dL_law_210 ?_
  refine lv_aload_n hx hb dL_law_211 rfl (lv_at hl 0 rfl) ?_
  refine lv_iload_n hx hb dL_law_212 rfl (lv_at hl 3 rfl) ?_
  refine lv_iconst (v := 2) hx hb dL_law_213 (by decide) ?_
  refine lv_iadd hx hb dL_law_214 ?_
  refine va_sld hx hb hXs hbl hE hR.2.1 h2 dL_law_215 ?_
  refine lv_aload_n hx hb dL_law_216 rfl (lv_at hl 0 rfl) ?_
  refine lv_iload_n hx hb dL_law_217 rfl (lv_at hl 3 rfl) ?_
  refine lv_iconst (v := 3) hx hb dL_law_218 (by decide) ?_
  refine lv_iadd hx hb dL_law_219 ?_
  refine va_sld hx hb hXs hbl hE hR.2.1 h3 dL_law_220 ?_
  refine lv_aload_n hx hb dL_law_221 rfl (lv_at hl 0 rfl) ?_
  refine lv_iload_n hx hb dL_law_222 rfl (lv_at hl 3 rfl) ?_
  refine lv_iconst (v := 4) hx hb dL_law_223 (by decide) ?_
  refine lv_iadd hx hb dL_law_224 ?_
  refine va_sld hx hb hXs hbl hE hR.2.1 h4 dL_law_225 ?_
  refine lv_aload_n hx hb dL_law_226 rfl (lv_at hl 0 rfl) ?_
  refine lv_iload_n hx hb dL_law_227 rfl (lv_at hl 3 rfl) ?_
  refine lv_iconst (v := 5) hx hb dL_law_228 (by decide) ?_
  refine lv_iadd hx hb dL_law_229 ?_
  refine va_sld hx hb hXs hbl hE hR.2.1 h5 dL_law_230 ?_
  refine x_callV (k := 47) (As := [.int (xs (ix (x3 + 1))), .int (xs (ix (x3 + 2))), .int (xs (ix (x3 + 3))), .int (xs (ix (x3 + 4))), .int (xs (ix (x3 + 5)))]) (rest := [.int r]) (st1 := [.int r, .int r]) X hR (ctX11_feed g2) ml_L_17 im_X11_feed se_X11_feed in_X11 co_X11_feed yo_X11_feed rfl kX11 (z_47 b) ⟨Nat.le_of_ble_eq_true rfl, Nat.le_of_ble_eq_true rfl⟩ rfl hl.1 rfl rfl (Nat.le_of_ble_eq_true rfl) dL_law_231 (by cases b <;> exact ⟨by decide, by decide⟩) (fun H locs hR => ?_)
  refine lv_icmp_eq (tgt := 1132) hx hb dL_law_234 (by decide) (fun _ => ?_) (fun q => absurd rfl q)
  exact kk _ _ _ _ g3 hR
set_option maxHeartbeats 4000000 in
set_option maxRecDepth 100000 in
theorem lc_1 (hst : st_1 Inv) (X : CX E p s m #[Value.ref b0] c meth code 4 ret RL) (hXs : va_X b0 L xs s s.heap) (hbl : b0 < s.heap.size) (hE : ¬ fr E b0) (h1 : vp_in (x3 + 1) L) {t : Nat} {b : Bool} {M : Mem} {H : Heap} {locs : List Loc} {ls : Array Slot} (ht : t < 512) (hI : Inv t b M) (hR : Rl E (sh_ b) (nn b) s.heap M H locs) (hl : lv_has ls 4 [(0, .ref b0), (1, .ref (eB E + 0)), (2, .ref (eB E + 47)), (3, .int x3)])
    (kk : ∀ (b : Bool) (M : Mem) (H : Heap) (locs : List Loc), Inv (t + 1) b M → Rl E (sh_ b) (nn b) s.heap M H locs → W p l e room_1 s m #[Value.ref b0] below meth c H locs (lc b) (lsl b) Q (F0 m 1132 ls [])) : W p l e room_1 s m #[Value.ref b0] below meth c H locs (lc b) (lsl b) Q (F0 m 239 ls []) := by
  obtain ⟨hx, hb, hr, hml, hown, hts, hK, hN, hO, hlk, hbs⟩ := id X
  obtain ⟨r, M1, M2, g1, g2, g3⟩ := hst t b M (xs (ix (x3 + 1))) ht hI
  refine lv_aload_n hx hb dL_law_239 rfl (lv_at hl 1 rfl) ?_
  refine lv_aload_n hx hb dL_law_240 rfl (lv_at hl 0 rfl) ?_
  refine lv_iload_n hx hb dL_law_241 rfl (lv_at hl 3 rfl) ?_
  refine lv_iconst (v := 1) hx hb dL_law_242 (by decide) ?_
  refine lv_iadd hx hb dL_law_243 ?_
  refine va_sld hx hb hXs hbl hE hR.2.1 h1 dL_law_244 ?_
  refine x_callV (k := 0) (As := [.int (xs (ix (x3 + 1)))]) (rest := []) (st1 := [.int r]) X hR (ctX10_end g1) ml_L_18 im_X10_end se_X10_end in_X10 co_X10_end yo_X10_end rfl kX10 (z_0 b) ⟨Nat.le_of_ble_eq_true rfl, Nat.le_of_ble_eq_true rfl⟩ rfl hl.1 rfl rfl (Nat.le_of_ble_eq_true rfl) dL_law_245 (by cases b <;> exact ⟨by decide, by decide⟩) (fun H locs hR => ?_)
  refine lv_aload_n hx hb dL_law_248 rfl (lv_at hl 2 rfl) ?_
  refine lv_aload_n hx hb dL_law_249 rfl (lv_at hl 0 rfl) ?_
  refine lv_iload_n hx hb dL_law_250 rfl (lv_at hl 3 rfl) ?_
  refine lv_iconst (v := 1) hx hb dL_law_251 (by decide) ?_
  refine lv_iadd hx hb dL_law_252 ?_
  refine va_sld hx hb hXs hbl hE hR.2.1 h1 dL_law_253 ?_
  refine x_callV (k := 47) (As := [.int (xs (ix (x3 + 1)))]) (rest := [.int r]) (st1 := [.int r, .int r]) X hR (ctX11_end g2) ml_L_22 im_X11_end se_X11_end in_X11 co_X11_end yo_X11_end rfl kX11 (z_47 b) ⟨Nat.le_of_ble_eq_true rfl, Nat.le_of_ble_eq_true rfl⟩ rfl hl.1 rfl rfl (Nat.le_of_ble_eq_true rfl) dL_law_254 (by cases b <;> exact ⟨by decide, by decide⟩) (fun H locs hR => ?_)
  refine lv_icmp_eq (tgt := 1132) hx hb dL_law_257 (by decide) (fun _ => ?_) (fun q => absurd rfl q)
  exact kk _ _ _ _ g3 hR
set_option maxHeartbeats 4000000 in
set_option maxRecDepth 100000 in
theorem lc_2 (hst : st_2 Inv) (X : CX E p s m #[Value.ref b0] c meth code 4 ret RL) (hXs : va_X b0 L xs s s.heap) (hbl : b0 < s.heap.size) (hE : ¬ fr E b0) {t : Nat} {b : Bool} {M : Mem} {H : Heap} {locs : List Loc} {ls : Array Slot} (ht : t < 512) (hI : Inv t b M) (hR : Rl E (sh_ b) (nn b) s.heap M H locs) (hl : lv_has ls 4 [(0, .ref b0), (1, .ref (eB E + 0)), (2, .ref (eB E + 47)), (3, .int x3)])
    (kk : ∀ (b : Bool) (M : Mem) (H : Heap) (locs : List Loc), Inv (t + 1) b M → Rl E (sh_ b) (nn b) s.heap M H locs → W p l e room_1 s m #[Value.ref b0] below meth c H locs (lc b) (lsl b) Q (F0 m 1132 ls [])) : W p l e room_1 s m #[Value.ref b0] below meth c H locs (lc b) (lsl b) Q (F0 m 262 ls []) := by
  obtain ⟨hx, hb, hr, hml, hown, hts, hK, hN, hO, hlk, hbs⟩ := id X
  obtain ⟨r, M1, M2, g1, g2, g3⟩ := hst t b M  ht hI
  refine lv_aload_n hx hb dL_law_262 rfl (lv_at hl 1 rfl) ?_
  refine x_callV (k := 0) (As := []) (rest := []) (st1 := [.int r]) X hR (ctX10_fault g1) ml_L_23 im_X10_fault se_X10_fault in_X10 co_X10_fault yo_X10_fault rfl kX10 (z_0 b) ⟨Nat.le_of_ble_eq_true rfl, Nat.le_of_ble_eq_true rfl⟩ rfl hl.1 rfl rfl (Nat.le_of_ble_eq_true rfl) dL_law_263 (by cases b <;> exact ⟨by decide, by decide⟩) (fun H locs hR => ?_)
  refine lv_aload_n hx hb dL_law_266 rfl (lv_at hl 2 rfl) ?_
  refine x_callV (k := 47) (As := []) (rest := [.int r]) (st1 := [.int r, .int r]) X hR (ctX11_fault g2) ml_L_27 im_X11_fault se_X11_fault in_X11 co_X11_fault yo_X11_fault rfl kX11 (z_47 b) ⟨Nat.le_of_ble_eq_true rfl, Nat.le_of_ble_eq_true rfl⟩ rfl hl.1 rfl rfl (Nat.le_of_ble_eq_true rfl) dL_law_267 (by cases b <;> exact ⟨by decide, by decide⟩) (fun H locs hR => ?_)
  refine lv_icmp_eq (tgt := 1132) hx hb dL_law_270 (by decide) (fun _ => ?_) (fun q => absurd rfl q)
  exact kk _ _ _ _ g3 hR
set_option maxHeartbeats 4000000 in
set_option maxRecDepth 100000 in
theorem lc_3 (hst : st_3 Inv) (X : CX E p s m #[Value.ref b0] c meth code 4 ret RL) (hXs : va_X b0 L xs s s.heap) (hbl : b0 < s.heap.size) (hE : ¬ fr E b0) {t : Nat} {b : Bool} {M : Mem} {H : Heap} {locs : List Loc} {ls : Array Slot} (ht : t < 512) (hI : Inv t b M) (hR : Rl E (sh_ b) (nn b) s.heap M H locs) (hl : lv_has ls 4 [(0, .ref b0), (1, .ref (eB E + 0)), (2, .ref (eB E + 47)), (3, .int x3)])
    (kk : ∀ (b : Bool) (M : Mem) (H : Heap) (locs : List Loc), Inv (t + 1) b M → Rl E (sh_ b) (nn b) s.heap M H locs → W p l e room_1 s m #[Value.ref b0] below meth c H locs (lc b) (lsl b) Q (F0 m 1132 ls [])) : W p l e room_1 s m #[Value.ref b0] below meth c H locs (lc b) (lsl b) Q (F0 m 275 ls []) := by
  obtain ⟨hx, hb, hr, hml, hown, hts, hK, hN, hO, hlk, hbs⟩ := id X
  obtain ⟨r, M1, M2, g1, g2, g3⟩ := hst t b M  ht hI
  refine lv_aload_n hx hb dL_law_275 rfl (lv_at hl 1 rfl) ?_
  refine x_callV (k := 0) (As := []) (rest := []) (st1 := [.int r]) X hR (ctX10_sheet g1) ml_L_28 im_X10_sheet se_X10_sheet in_X10 co_X10_sheet yo_X10_sheet rfl kX10 (z_0 b) ⟨Nat.le_of_ble_eq_true rfl, Nat.le_of_ble_eq_true rfl⟩ rfl hl.1 rfl rfl (Nat.le_of_ble_eq_true rfl) dL_law_276 (by cases b <;> exact ⟨by decide, by decide⟩) (fun H locs hR => ?_)
  refine lv_aload_n hx hb dL_law_279 rfl (lv_at hl 2 rfl) ?_
  refine x_callV (k := 47) (As := []) (rest := [.int r]) (st1 := [.int r, .int r]) X hR (ctX11_sheet g2) ml_L_31 im_X11_sheet se_X11_sheet in_X11 co_X11_sheet yo_X11_sheet rfl kX11 (z_47 b) ⟨Nat.le_of_ble_eq_true rfl, Nat.le_of_ble_eq_true rfl⟩ rfl hl.1 rfl rfl (Nat.le_of_ble_eq_true rfl) dL_law_280 (by cases b <;> exact ⟨by decide, by decide⟩) (fun H locs hR => ?_)
  refine lv_icmp_eq (tgt := 1132) hx hb dL_law_283 (by decide) (fun _ => ?_) (fun q => absurd rfl q)
  exact kk _ _ _ _ g3 hR
set_option maxHeartbeats 4000000 in
set_option maxRecDepth 100000 in
theorem lc_4 (hst : st_4 Inv) (X : CX E p s m #[Value.ref b0] c meth code 4 ret RL) (hXs : va_X b0 L xs s s.heap) (hbl : b0 < s.heap.size) (hE : ¬ fr E b0) (h1 : vp_in (x3 + 1) L) (h2 : vp_in (x3 + 2) L) {t : Nat} {b : Bool} {M : Mem} {H : Heap} {locs : List Loc} {ls : Array Slot} (ht : t < 512) (hI : Inv t b M) (hR : Rl E (sh_ b) (nn b) s.heap M H locs) (hl : lv_has ls 4 [(0, .ref b0), (1, .ref (eB E + 0)), (2, .ref (eB E + 47)), (3, .int x3)])
    (kk : ∀ (b : Bool) (M : Mem) (H : Heap) (locs : List Loc), Inv (t + 1) b M → Rl E (sh_ b) (nn b) s.heap M H locs → W p l e room_1 s m #[Value.ref b0] below meth c H locs (lc b) (lsl b) Q (F0 m 1132 ls [])) : W p l e room_1 s m #[Value.ref b0] below meth c H locs (lc b) (lsl b) Q (F0 m 288 ls []) := by
  obtain ⟨hx, hb, hr, hml, hown, hts, hK, hN, hO, hlk, hbs⟩ := id X
  obtain ⟨r, g1, g2, g3⟩ := hst t b M (xs (ix (x3 + 1))) (xs (ix (x3 + 2))) ht hI
  refine lv_aload_n hx hb dL_law_288 rfl (lv_at hl 1 rfl) ?_
  refine lv_aload_n hx hb dL_law_289 rfl (lv_at hl 0 rfl) ?_
  refine lv_iload_n hx hb dL_law_290 rfl (lv_at hl 3 rfl) ?_
  refine lv_iconst (v := 1) hx hb dL_law_291 (by decide) ?_
  refine lv_iadd hx hb dL_law_292 ?_
  refine va_sld hx hb hXs hbl hE hR.2.1 h1 dL_law_293 ?_
  refine lv_aload_n hx hb dL_law_294 rfl (lv_at hl 0 rfl) ?_
  refine lv_iload_n hx hb dL_law_295 rfl (lv_at hl 3 rfl) ?_
  refine lv_iconst (v := 2) hx hb dL_law_296 (by decide) ?_
  refine lv_iadd hx hb dL_law_297 ?_
  refine va_sld hx hb hXs hbl hE hR.2.1 h2 dL_law_298 ?_
  refine x_callV (k := 0) (As := [.int (xs (ix (x3 + 1))), .int (xs (ix (x3 + 2)))]) (rest := []) (st1 := [.int r]) X hR (ctX10_voter g1) ml_L_32 im_X10_voter se_X10_voter in_X10 co_X10_voter yo_X10_voter rfl kX10 (z_0 b) ⟨Nat.le_of_ble_eq_true rfl, Nat.le_of_ble_eq_true rfl⟩ rfl hl.1 rfl rfl (Nat.le_of_ble_eq_true rfl) dL_law_299 (by cases b <;> exact ⟨by decide, by decide⟩) (fun H locs hR => ?_)
  refine lv_aload_n hx hb dL_law_302 rfl (lv_at hl 2 rfl) ?_
  refine lv_aload_n hx hb dL_law_303 rfl (lv_at hl 0 rfl) ?_
  refine lv_iload_n hx hb dL_law_304 rfl (lv_at hl 3 rfl) ?_
  refine lv_iconst (v := 1) hx hb dL_law_305 (by decide) ?_
  refine lv_iadd hx hb dL_law_306 ?_
  refine va_sld hx hb hXs hbl hE hR.2.1 h1 dL_law_307 ?_
  refine lv_aload_n hx hb dL_law_308 rfl (lv_at hl 0 rfl) ?_
  refine lv_iload_n hx hb dL_law_309 rfl (lv_at hl 3 rfl) ?_
  refine lv_iconst (v := 2) hx hb dL_law_310 (by decide) ?_
  refine lv_iadd hx hb dL_law_311 ?_
  refine va_sld hx hb hXs hbl hE hR.2.1 h2 dL_law_312 ?_
  refine x_callV (k := 47) (As := [.int (xs (ix (x3 + 1))), .int (xs (ix (x3 + 2)))]) (rest := [.int r]) (st1 := [.int r, .int r]) X hR (ctX11_voter g2) ml_L_36 im_X11_voter se_X11_voter in_X11 co_X11_voter yo_X11_voter rfl kX11 (z_47 b) ⟨Nat.le_of_ble_eq_true rfl, Nat.le_of_ble_eq_true rfl⟩ rfl hl.1 rfl rfl (Nat.le_of_ble_eq_true rfl) dL_law_313 (by cases b <;> exact ⟨by decide, by decide⟩) (fun H locs hR => ?_)
  refine lv_icmp_eq (tgt := 1132) hx hb dL_law_316 (by decide) (fun _ => ?_) (fun q => absurd rfl q)
  exact kk _ _ _ _ g3 hR
set_option maxHeartbeats 4000000 in
set_option maxRecDepth 100000 in
theorem lc_5 (hst : st_5 Inv) (X : CX E p s m #[Value.ref b0] c meth code 4 ret RL) (hXs : va_X b0 L xs s s.heap) (hbl : b0 < s.heap.size) (hE : ¬ fr E b0) (h1 : vp_in (x3 + 1) L) (h2 : vp_in (x3 + 2) L) {t : Nat} {b : Bool} {M : Mem} {H : Heap} {locs : List Loc} {ls : Array Slot} (ht : t < 512) (hI : Inv t b M) (hR : Rl E (sh_ b) (nn b) s.heap M H locs) (hl : lv_has ls 4 [(0, .ref b0), (1, .ref (eB E + 0)), (2, .ref (eB E + 47)), (3, .int x3)])
    (kk : ∀ (b : Bool) (M : Mem) (H : Heap) (locs : List Loc), Inv (t + 1) b M → Rl E (sh_ b) (nn b) s.heap M H locs → W p l e room_1 s m #[Value.ref b0] below meth c H locs (lc b) (lsl b) Q (F0 m 1132 ls [])) : W p l e room_1 s m #[Value.ref b0] below meth c H locs (lc b) (lsl b) Q (F0 m 321 ls []) := by
  obtain ⟨hx, hb, hr, hml, hown, hts, hK, hN, hO, hlk, hbs⟩ := id X
  obtain ⟨r, g1, g2, g3⟩ := hst t b M (xs (ix (x3 + 1))) (xs (ix (x3 + 2))) ht hI
  refine lv_aload_n hx hb dL_law_321 rfl (lv_at hl 1 rfl) ?_
  refine lv_aload_n hx hb dL_law_322 rfl (lv_at hl 0 rfl) ?_
  refine lv_iload_n hx hb dL_law_323 rfl (lv_at hl 3 rfl) ?_
  refine lv_iconst (v := 1) hx hb dL_law_324 (by decide) ?_
  refine lv_iadd hx hb dL_law_325 ?_
  refine va_sld hx hb hXs hbl hE hR.2.1 h1 dL_law_326 ?_
  refine lv_aload_n hx hb dL_law_327 rfl (lv_at hl 0 rfl) ?_
  refine lv_iload_n hx hb dL_law_328 rfl (lv_at hl 3 rfl) ?_
  refine lv_iconst (v := 2) hx hb dL_law_329 (by decide) ?_
  refine lv_iadd hx hb dL_law_330 ?_
  refine va_sld hx hb hXs hbl hE hR.2.1 h2 dL_law_331 ?_
  refine x_callV (k := 0) (As := [.int (xs (ix (x3 + 1))), .int (xs (ix (x3 + 2)))]) (rest := []) (st1 := [.int r]) X hR (ctX10_place g1) ml_L_37 im_X10_place se_X10_place in_X10 co_X10_place yo_X10_place rfl kX10 (z_0 b) ⟨Nat.le_of_ble_eq_true rfl, Nat.le_of_ble_eq_true rfl⟩ rfl hl.1 rfl rfl (Nat.le_of_ble_eq_true rfl) dL_law_332 (by cases b <;> exact ⟨by decide, by decide⟩) (fun H locs hR => ?_)
  refine lv_aload_n hx hb dL_law_335 rfl (lv_at hl 2 rfl) ?_
  refine lv_aload_n hx hb dL_law_336 rfl (lv_at hl 0 rfl) ?_
  refine lv_iload_n hx hb dL_law_337 rfl (lv_at hl 3 rfl) ?_
  refine lv_iconst (v := 1) hx hb dL_law_338 (by decide) ?_
  refine lv_iadd hx hb dL_law_339 ?_
  refine va_sld hx hb hXs hbl hE hR.2.1 h1 dL_law_340 ?_
  refine lv_aload_n hx hb dL_law_341 rfl (lv_at hl 0 rfl) ?_
  refine lv_iload_n hx hb dL_law_342 rfl (lv_at hl 3 rfl) ?_
  refine lv_iconst (v := 2) hx hb dL_law_343 (by decide) ?_
  refine lv_iadd hx hb dL_law_344 ?_
  refine va_sld hx hb hXs hbl hE hR.2.1 h2 dL_law_345 ?_
  refine x_callV (k := 47) (As := [.int (xs (ix (x3 + 1))), .int (xs (ix (x3 + 2)))]) (rest := [.int r]) (st1 := [.int r, .int r]) X hR (ctX11_place g2) ml_L_40 im_X11_place se_X11_place in_X11 co_X11_place yo_X11_place rfl kX11 (z_47 b) ⟨Nat.le_of_ble_eq_true rfl, Nat.le_of_ble_eq_true rfl⟩ rfl hl.1 rfl rfl (Nat.le_of_ble_eq_true rfl) dL_law_346 (by cases b <;> exact ⟨by decide, by decide⟩) (fun H locs hR => ?_)
  refine lv_icmp_eq (tgt := 1132) hx hb dL_law_349 (by decide) (fun _ => ?_) (fun q => absurd rfl q)
  exact kk _ _ _ _ g3 hR
set_option maxHeartbeats 4000000 in
set_option maxRecDepth 100000 in
theorem lc_6 (hst : st_6 Inv) (X : CX E p s m #[Value.ref b0] c meth code 4 ret RL) (hXs : va_X b0 L xs s s.heap) (hbl : b0 < s.heap.size) (hE : ¬ fr E b0) (h1 : vp_in (x3 + 1) L) (h2 : vp_in (x3 + 2) L) {t : Nat} {b : Bool} {M : Mem} {H : Heap} {locs : List Loc} {ls : Array Slot} (ht : t < 512) (hI : Inv t b M) (hR : Rl E (sh_ b) (nn b) s.heap M H locs) (hl : lv_has ls 4 [(0, .ref b0), (1, .ref (eB E + 0)), (2, .ref (eB E + 47)), (3, .int x3)])
    (kk : ∀ (b : Bool) (M : Mem) (H : Heap) (locs : List Loc), Inv (t + 1) b M → Rl E (sh_ b) (nn b) s.heap M H locs → W p l e room_1 s m #[Value.ref b0] below meth c H locs (lc b) (lsl b) Q (F0 m 1132 ls [])) : W p l e room_1 s m #[Value.ref b0] below meth c H locs (lc b) (lsl b) Q (F0 m 354 ls []) := by
  obtain ⟨hx, hb, hr, hml, hown, hts, hK, hN, hO, hlk, hbs⟩ := id X
  obtain ⟨r, M1, M2, g1, g2, g3⟩ := hst t b M (xs (ix (x3 + 1))) (xs (ix (x3 + 2))) ht hI
  refine lv_aload_n hx hb dL_law_354 rfl (lv_at hl 1 rfl) ?_
  refine lv_aload_n hx hb dL_law_355 rfl (lv_at hl 0 rfl) ?_
  refine lv_iload_n hx hb dL_law_356 rfl (lv_at hl 3 rfl) ?_
  refine lv_iconst (v := 1) hx hb dL_law_357 (by decide) ?_
  refine lv_iadd hx hb dL_law_358 ?_
  refine va_sld hx hb hXs hbl hE hR.2.1 h1 dL_law_359 ?_
  refine lv_aload_n hx hb dL_law_360 rfl (lv_at hl 0 rfl) ?_
  refine lv_iload_n hx hb dL_law_361 rfl (lv_at hl 3 rfl) ?_
  refine lv_iconst (v := 2) hx hb dL_law_362 (by decide) ?_
  refine lv_iadd hx hb dL_law_363 ?_
  refine va_sld hx hb hXs hbl hE hR.2.1 h2 dL_law_364 ?_
  refine x_callV (k := 0) (As := [.int (xs (ix (x3 + 1))), .int (xs (ix (x3 + 2)))]) (rest := []) (st1 := [.int r]) X hR (ctX10_propose g1) ml_L_41 im_X10_propose se_X10_propose in_X10 co_X10_propose yo_X10_propose rfl kX10 (z_0 b) ⟨Nat.le_of_ble_eq_true rfl, Nat.le_of_ble_eq_true rfl⟩ rfl hl.1 rfl rfl (Nat.le_of_ble_eq_true rfl) dL_law_365 (by cases b <;> exact ⟨by decide, by decide⟩) (fun H locs hR => ?_)
  refine lv_aload_n hx hb dL_law_368 rfl (lv_at hl 2 rfl) ?_
  refine lv_aload_n hx hb dL_law_369 rfl (lv_at hl 0 rfl) ?_
  refine lv_iload_n hx hb dL_law_370 rfl (lv_at hl 3 rfl) ?_
  refine lv_iconst (v := 1) hx hb dL_law_371 (by decide) ?_
  refine lv_iadd hx hb dL_law_372 ?_
  refine va_sld hx hb hXs hbl hE hR.2.1 h1 dL_law_373 ?_
  refine lv_aload_n hx hb dL_law_374 rfl (lv_at hl 0 rfl) ?_
  refine lv_iload_n hx hb dL_law_375 rfl (lv_at hl 3 rfl) ?_
  refine lv_iconst (v := 2) hx hb dL_law_376 (by decide) ?_
  refine lv_iadd hx hb dL_law_377 ?_
  refine va_sld hx hb hXs hbl hE hR.2.1 h2 dL_law_378 ?_
  refine x_callV (k := 47) (As := [.int (xs (ix (x3 + 1))), .int (xs (ix (x3 + 2)))]) (rest := [.int r]) (st1 := [.int r, .int r]) X hR (ctX11_propose g2) ml_L_44 im_X11_propose se_X11_propose in_X11 co_X11_propose yo_X11_propose rfl kX11 (z_47 b) ⟨Nat.le_of_ble_eq_true rfl, Nat.le_of_ble_eq_true rfl⟩ rfl hl.1 rfl rfl (Nat.le_of_ble_eq_true rfl) dL_law_379 (by cases b <;> exact ⟨by decide, by decide⟩) (fun H locs hR => ?_)
  refine lv_icmp_eq (tgt := 1132) hx hb dL_law_382 (by decide) (fun _ => ?_) (fun q => absurd rfl q)
  exact kk _ _ _ _ g3 hR
set_option maxHeartbeats 4000000 in
set_option maxRecDepth 100000 in
theorem lc_7 (hst : st_7 Inv) (X : CX E p s m #[Value.ref b0] c meth code 4 ret RL) (hXs : va_X b0 L xs s s.heap) (hbl : b0 < s.heap.size) (hE : ¬ fr E b0) (h1 : vp_in (x3 + 1) L) (h2 : vp_in (x3 + 2) L) (h3 : vp_in (x3 + 3) L) {t : Nat} {b : Bool} {M : Mem} {H : Heap} {locs : List Loc} {ls : Array Slot} (ht : t < 512) (hI : Inv t b M) (hR : Rl E (sh_ b) (nn b) s.heap M H locs) (hl : lv_has ls 4 [(0, .ref b0), (1, .ref (eB E + 0)), (2, .ref (eB E + 47)), (3, .int x3)])
    (kk : ∀ (b : Bool) (M : Mem) (H : Heap) (locs : List Loc), Inv (t + 1) b M → Rl E (sh_ b) (nn b) s.heap M H locs → W p l e room_1 s m #[Value.ref b0] below meth c H locs (lc b) (lsl b) Q (F0 m 1132 ls [])) : W p l e room_1 s m #[Value.ref b0] below meth c H locs (lc b) (lsl b) Q (F0 m 387 ls []) := by
  obtain ⟨hx, hb, hr, hml, hown, hts, hK, hN, hO, hlk, hbs⟩ := id X
  obtain ⟨r, g1, g2, g3⟩ := hst t b M (xs (ix (x3 + 1))) (xs (ix (x3 + 2))) (xs (ix (x3 + 3))) ht hI
  refine lv_aload_n hx hb dL_law_387 rfl (lv_at hl 1 rfl) ?_
  refine lv_aload_n hx hb dL_law_388 rfl (lv_at hl 0 rfl) ?_
  refine lv_iload_n hx hb dL_law_389 rfl (lv_at hl 3 rfl) ?_
  refine lv_iconst (v := 1) hx hb dL_law_390 (by decide) ?_
  refine lv_iadd hx hb dL_law_391 ?_
  refine va_sld hx hb hXs hbl hE hR.2.1 h1 dL_law_392 ?_
  refine lv_aload_n hx hb dL_law_393 rfl (lv_at hl 0 rfl) ?_
  refine lv_iload_n hx hb dL_law_394 rfl (lv_at hl 3 rfl) ?_
  refine lv_iconst (v := 2) hx hb dL_law_395 (by decide) ?_
  refine lv_iadd hx hb dL_law_396 ?_
  refine va_sld hx hb hXs hbl hE hR.2.1 h2 dL_law_397 ?_
  refine lv_aload_n hx hb dL_law_398 rfl (lv_at hl 0 rfl) ?_
  refine lv_iload_n hx hb dL_law_399 rfl (lv_at hl 3 rfl) ?_
  refine lv_iconst (v := 3) hx hb dL_law_400 (by decide) ?_
  refine lv_iadd hx hb dL_law_401 ?_
  refine va_sld hx hb hXs hbl hE hR.2.1 h3 dL_law_402 ?_
  refine x_callV (k := 0) (As := [.int (xs (ix (x3 + 1))), .int (xs (ix (x3 + 2))), .int (xs (ix (x3 + 3)))]) (rest := []) (st1 := [.int r]) X hR (ctX10_way g1) ml_L_45 im_X10_way se_X10_way in_X10 co_X10_way yo_X10_way rfl kX10 (z_0 b) ⟨Nat.le_of_ble_eq_true rfl, Nat.le_of_ble_eq_true rfl⟩ rfl hl.1 rfl rfl (Nat.le_of_ble_eq_true rfl) dL_law_403 (by cases b <;> exact ⟨by decide, by decide⟩) (fun H locs hR => ?_)
  refine lv_aload_n hx hb dL_law_406 rfl (lv_at hl 2 rfl) ?_
  refine lv_aload_n hx hb dL_law_407 rfl (lv_at hl 0 rfl) ?_
  refine lv_iload_n hx hb dL_law_408 rfl (lv_at hl 3 rfl) ?_
  refine lv_iconst (v := 1) hx hb dL_law_409 (by decide) ?_
  refine lv_iadd hx hb dL_law_410 ?_
  refine va_sld hx hb hXs hbl hE hR.2.1 h1 dL_law_411 ?_
  refine lv_aload_n hx hb dL_law_412 rfl (lv_at hl 0 rfl) ?_
  refine lv_iload_n hx hb dL_law_413 rfl (lv_at hl 3 rfl) ?_
  refine lv_iconst (v := 2) hx hb dL_law_414 (by decide) ?_
  refine lv_iadd hx hb dL_law_415 ?_
  refine va_sld hx hb hXs hbl hE hR.2.1 h2 dL_law_416 ?_
  refine lv_aload_n hx hb dL_law_417 rfl (lv_at hl 0 rfl) ?_
  refine lv_iload_n hx hb dL_law_418 rfl (lv_at hl 3 rfl) ?_
  refine lv_iconst (v := 3) hx hb dL_law_419 (by decide) ?_
  refine lv_iadd hx hb dL_law_420 ?_
  refine va_sld hx hb hXs hbl hE hR.2.1 h3 dL_law_421 ?_
  refine x_callV (k := 47) (As := [.int (xs (ix (x3 + 1))), .int (xs (ix (x3 + 2))), .int (xs (ix (x3 + 3)))]) (rest := [.int r]) (st1 := [.int r, .int r]) X hR (ctX11_way g2) ml_L_49 im_X11_way se_X11_way in_X11 co_X11_way yo_X11_way rfl kX11 (z_47 b) ⟨Nat.le_of_ble_eq_true rfl, Nat.le_of_ble_eq_true rfl⟩ rfl hl.1 rfl rfl (Nat.le_of_ble_eq_true rfl) dL_law_422 (by cases b <;> exact ⟨by decide, by decide⟩) (fun H locs hR => ?_)
  refine lv_icmp_eq (tgt := 1132) hx hb dL_law_425 (by decide) (fun _ => ?_) (fun q => absurd rfl q)
  exact kk _ _ _ _ g3 hR
set_option maxHeartbeats 4000000 in
set_option maxRecDepth 100000 in
theorem lc_8 (hst : st_8 Inv) (X : CX E p s m #[Value.ref b0] c meth code 4 ret RL) (hXs : va_X b0 L xs s s.heap) (hbl : b0 < s.heap.size) (hE : ¬ fr E b0) (h1 : vp_in (x3 + 1) L) (h2 : vp_in (x3 + 2) L) {t : Nat} {b : Bool} {M : Mem} {H : Heap} {locs : List Loc} {ls : Array Slot} (ht : t < 512) (hI : Inv t b M) (hR : Rl E (sh_ b) (nn b) s.heap M H locs) (hl : lv_has ls 4 [(0, .ref b0), (1, .ref (eB E + 0)), (2, .ref (eB E + 47)), (3, .int x3)])
    (kk : ∀ (b : Bool) (M : Mem) (H : Heap) (locs : List Loc), Inv (t + 1) b M → Rl E (sh_ b) (nn b) s.heap M H locs → W p l e room_1 s m #[Value.ref b0] below meth c H locs (lc b) (lsl b) Q (F0 m 1132 ls [])) : W p l e room_1 s m #[Value.ref b0] below meth c H locs (lc b) (lsl b) Q (F0 m 430 ls []) := by
  obtain ⟨hx, hb, hr, hml, hown, hts, hK, hN, hO, hlk, hbs⟩ := id X
  obtain ⟨r, M1, g1, g2, g3⟩ := hst t b M (xs (ix (x3 + 1))) (xs (ix (x3 + 2))) ht hI
  refine lv_aload_n hx hb dL_law_430 rfl (lv_at hl 1 rfl) ?_
  refine lv_aload_n hx hb dL_law_431 rfl (lv_at hl 0 rfl) ?_
  refine lv_iload_n hx hb dL_law_432 rfl (lv_at hl 3 rfl) ?_
  refine lv_iconst (v := 1) hx hb dL_law_433 (by decide) ?_
  refine lv_iadd hx hb dL_law_434 ?_
  refine va_sld hx hb hXs hbl hE hR.2.1 h1 dL_law_435 ?_
  refine lv_aload_n hx hb dL_law_436 rfl (lv_at hl 0 rfl) ?_
  refine lv_iload_n hx hb dL_law_437 rfl (lv_at hl 3 rfl) ?_
  refine lv_iconst (v := 2) hx hb dL_law_438 (by decide) ?_
  refine lv_iadd hx hb dL_law_439 ?_
  refine va_sld hx hb hXs hbl hE hR.2.1 h2 dL_law_440 ?_
  refine x_callV (k := 0) (As := [.int (xs (ix (x3 + 1))), .int (xs (ix (x3 + 2)))]) (rest := []) (st1 := [.int r]) X hR (ctX10_votes g1) ml_L_50 im_X10_votes se_X10_votes in_X10 co_X10_votes yo_X10_votes rfl kX10 (z_0 b) ⟨Nat.le_of_ble_eq_true rfl, Nat.le_of_ble_eq_true rfl⟩ rfl hl.1 rfl rfl (Nat.le_of_ble_eq_true rfl) dL_law_441 (by cases b <;> exact ⟨by decide, by decide⟩) (fun H locs hR => ?_)
  refine lv_aload_n hx hb dL_law_444 rfl (lv_at hl 2 rfl) ?_
  refine lv_aload_n hx hb dL_law_445 rfl (lv_at hl 0 rfl) ?_
  refine lv_iload_n hx hb dL_law_446 rfl (lv_at hl 3 rfl) ?_
  refine lv_iconst (v := 1) hx hb dL_law_447 (by decide) ?_
  refine lv_iadd hx hb dL_law_448 ?_
  refine va_sld hx hb hXs hbl hE hR.2.1 h1 dL_law_449 ?_
  refine lv_aload_n hx hb dL_law_450 rfl (lv_at hl 0 rfl) ?_
  refine lv_iload_n hx hb dL_law_451 rfl (lv_at hl 3 rfl) ?_
  refine lv_iconst (v := 2) hx hb dL_law_452 (by decide) ?_
  refine lv_iadd hx hb dL_law_453 ?_
  refine va_sld hx hb hXs hbl hE hR.2.1 h2 dL_law_454 ?_
  refine x_callV (k := 47) (As := [.int (xs (ix (x3 + 1))), .int (xs (ix (x3 + 2)))]) (rest := [.int r]) (st1 := [.int r, .int r]) X hR (ctX11_votes g2) ml_L_53 im_X11_votes se_X11_votes in_X11 co_X11_votes yo_X11_votes rfl kX11 (z_47 b) ⟨Nat.le_of_ble_eq_true rfl, Nat.le_of_ble_eq_true rfl⟩ rfl hl.1 rfl rfl (Nat.le_of_ble_eq_true rfl) dL_law_455 (by cases b <;> exact ⟨by decide, by decide⟩) (fun H locs hR => ?_)
  refine lv_icmp_eq (tgt := 1132) hx hb dL_law_458 (by decide) (fun _ => ?_) (fun q => absurd rfl q)
  exact kk _ _ _ _ g3 hR
set_option maxHeartbeats 4000000 in
set_option maxRecDepth 100000 in
theorem lc_9 (hst : st_9 Inv) (X : CX E p s m #[Value.ref b0] c meth code 4 ret RL) (hXs : va_X b0 L xs s s.heap) (hbl : b0 < s.heap.size) (hE : ¬ fr E b0) (h1 : vp_in (x3 + 1) L) (h2 : vp_in (x3 + 2) L) {t : Nat} {b : Bool} {M : Mem} {H : Heap} {locs : List Loc} {ls : Array Slot} (ht : t < 512) (hI : Inv t b M) (hR : Rl E (sh_ b) (nn b) s.heap M H locs) (hl : lv_has ls 4 [(0, .ref b0), (1, .ref (eB E + 0)), (2, .ref (eB E + 47)), (3, .int x3)])
    (kk : ∀ (b : Bool) (M : Mem) (H : Heap) (locs : List Loc), Inv (t + 1) b M → Rl E (sh_ b) (nn b) s.heap M H locs → W p l e room_1 s m #[Value.ref b0] below meth c H locs (lc b) (lsl b) Q (F0 m 1132 ls [])) : W p l e room_1 s m #[Value.ref b0] below meth c H locs (lc b) (lsl b) Q (F0 m 463 ls []) := by
  obtain ⟨hx, hb, hr, hml, hown, hts, hK, hN, hO, hlk, hbs⟩ := id X
  obtain ⟨r, M1, g1, g2, g3⟩ := hst t b M (xs (ix (x3 + 1))) (xs (ix (x3 + 2))) ht hI
  refine lv_aload_n hx hb dL_law_463 rfl (lv_at hl 1 rfl) ?_
  refine lv_aload_n hx hb dL_law_464 rfl (lv_at hl 0 rfl) ?_
  refine lv_iload_n hx hb dL_law_465 rfl (lv_at hl 3 rfl) ?_
  refine lv_iconst (v := 1) hx hb dL_law_466 (by decide) ?_
  refine lv_iadd hx hb dL_law_467 ?_
  refine va_sld hx hb hXs hbl hE hR.2.1 h1 dL_law_468 ?_
  refine lv_aload_n hx hb dL_law_469 rfl (lv_at hl 0 rfl) ?_
  refine lv_iload_n hx hb dL_law_470 rfl (lv_at hl 3 rfl) ?_
  refine lv_iconst (v := 2) hx hb dL_law_471 (by decide) ?_
  refine lv_iadd hx hb dL_law_472 ?_
  refine va_sld hx hb hXs hbl hE hR.2.1 h2 dL_law_473 ?_
  refine x_callV (k := 0) (As := [.int (xs (ix (x3 + 1))), .int (xs (ix (x3 + 2)))]) (rest := []) (st1 := [.int r]) X hR (ctX10_beats g1) ml_L_54 im_X10_beats se_X10_beats in_X10 co_X10_beats yo_X10_beats rfl kX10 (z_0 b) ⟨Nat.le_of_ble_eq_true rfl, Nat.le_of_ble_eq_true rfl⟩ rfl hl.1 rfl rfl (Nat.le_of_ble_eq_true rfl) dL_law_474 (by cases b <;> exact ⟨by decide, by decide⟩) (fun H locs hR => ?_)
  refine lv_aload_n hx hb dL_law_477 rfl (lv_at hl 2 rfl) ?_
  refine lv_aload_n hx hb dL_law_478 rfl (lv_at hl 0 rfl) ?_
  refine lv_iload_n hx hb dL_law_479 rfl (lv_at hl 3 rfl) ?_
  refine lv_iconst (v := 1) hx hb dL_law_480 (by decide) ?_
  refine lv_iadd hx hb dL_law_481 ?_
  refine va_sld hx hb hXs hbl hE hR.2.1 h1 dL_law_482 ?_
  refine lv_aload_n hx hb dL_law_483 rfl (lv_at hl 0 rfl) ?_
  refine lv_iload_n hx hb dL_law_484 rfl (lv_at hl 3 rfl) ?_
  refine lv_iconst (v := 2) hx hb dL_law_485 (by decide) ?_
  refine lv_iadd hx hb dL_law_486 ?_
  refine va_sld hx hb hXs hbl hE hR.2.1 h2 dL_law_487 ?_
  refine x_callV (k := 47) (As := [.int (xs (ix (x3 + 1))), .int (xs (ix (x3 + 2)))]) (rest := [.int r]) (st1 := [.int r, .int r]) X hR (ctX11_beats g2) ml_L_58 im_X11_beats se_X11_beats in_X11 co_X11_beats yo_X11_beats rfl kX11 (z_47 b) ⟨Nat.le_of_ble_eq_true rfl, Nat.le_of_ble_eq_true rfl⟩ rfl hl.1 rfl rfl (Nat.le_of_ble_eq_true rfl) dL_law_488 (by cases b <;> exact ⟨by decide, by decide⟩) (fun H locs hR => ?_)
  refine lv_icmp_eq (tgt := 1132) hx hb dL_law_491 (by decide) (fun _ => ?_) (fun q => absurd rfl q)
  exact kk _ _ _ _ g3 hR
set_option maxHeartbeats 4000000 in
set_option maxRecDepth 100000 in
theorem lc_10 (hst : st_10 Inv) (X : CX E p s m #[Value.ref b0] c meth code 4 ret RL) (hXs : va_X b0 L xs s s.heap) (hbl : b0 < s.heap.size) (hE : ¬ fr E b0) (h1 : vp_in (x3 + 1) L) (h2 : vp_in (x3 + 2) L) {t : Nat} {b : Bool} {M : Mem} {H : Heap} {locs : List Loc} {ls : Array Slot} (ht : t < 512) (hI : Inv t b M) (hR : Rl E (sh_ b) (nn b) s.heap M H locs) (hl : lv_has ls 4 [(0, .ref b0), (1, .ref (eB E + 0)), (2, .ref (eB E + 47)), (3, .int x3)])
    (kk : ∀ (b : Bool) (M : Mem) (H : Heap) (locs : List Loc), Inv (t + 1) b M → Rl E (sh_ b) (nn b) s.heap M H locs → W p l e room_1 s m #[Value.ref b0] below meth c H locs (lc b) (lsl b) Q (F0 m 1132 ls [])) : W p l e room_1 s m #[Value.ref b0] below meth c H locs (lc b) (lsl b) Q (F0 m 496 ls []) := by
  obtain ⟨hx, hb, hr, hml, hown, hts, hK, hN, hO, hlk, hbs⟩ := id X
  obtain ⟨r, g1, g2, g3⟩ := hst t b M (xs (ix (x3 + 1))) (xs (ix (x3 + 2))) ht hI
  refine lv_aload_n hx hb dL_law_496 rfl (lv_at hl 1 rfl) ?_
  refine lv_aload_n hx hb dL_law_497 rfl (lv_at hl 0 rfl) ?_
  refine lv_iload_n hx hb dL_law_498 rfl (lv_at hl 3 rfl) ?_
  refine lv_iconst (v := 1) hx hb dL_law_499 (by decide) ?_
  refine lv_iadd hx hb dL_law_500 ?_
  refine va_sld hx hb hXs hbl hE hR.2.1 h1 dL_law_501 ?_
  refine lv_aload_n hx hb dL_law_502 rfl (lv_at hl 0 rfl) ?_
  refine lv_iload_n hx hb dL_law_503 rfl (lv_at hl 3 rfl) ?_
  refine lv_iconst (v := 2) hx hb dL_law_504 (by decide) ?_
  refine lv_iadd hx hb dL_law_505 ?_
  refine va_sld hx hb hXs hbl hE hR.2.1 h2 dL_law_506 ?_
  refine x_callV (k := 0) (As := [.int (xs (ix (x3 + 1))), .int (xs (ix (x3 + 2)))]) (rest := []) (st1 := [.int r]) X hR (ctX10_wins g1) ml_L_59 im_X10_wins se_X10_wins in_X10 co_X10_wins yo_X10_wins rfl kX10 (z_0 b) ⟨Nat.le_of_ble_eq_true rfl, Nat.le_of_ble_eq_true rfl⟩ rfl hl.1 rfl rfl (Nat.le_of_ble_eq_true rfl) dL_law_507 (by cases b <;> exact ⟨by decide, by decide⟩) (fun H locs hR => ?_)
  refine lv_aload_n hx hb dL_law_510 rfl (lv_at hl 2 rfl) ?_
  refine lv_aload_n hx hb dL_law_511 rfl (lv_at hl 0 rfl) ?_
  refine lv_iload_n hx hb dL_law_512 rfl (lv_at hl 3 rfl) ?_
  refine lv_iconst (v := 1) hx hb dL_law_513 (by decide) ?_
  refine lv_iadd hx hb dL_law_514 ?_
  refine va_sld hx hb hXs hbl hE hR.2.1 h1 dL_law_515 ?_
  refine lv_aload_n hx hb dL_law_516 rfl (lv_at hl 0 rfl) ?_
  refine lv_iload_n hx hb dL_law_517 rfl (lv_at hl 3 rfl) ?_
  refine lv_iconst (v := 2) hx hb dL_law_518 (by decide) ?_
  refine lv_iadd hx hb dL_law_519 ?_
  refine va_sld hx hb hXs hbl hE hR.2.1 h2 dL_law_520 ?_
  refine x_callV (k := 47) (As := [.int (xs (ix (x3 + 1))), .int (xs (ix (x3 + 2)))]) (rest := [.int r]) (st1 := [.int r, .int r]) X hR (ctX11_wins g2) ml_L_62 im_X11_wins se_X11_wins in_X11 co_X11_wins yo_X11_wins rfl kX11 (z_47 b) ⟨Nat.le_of_ble_eq_true rfl, Nat.le_of_ble_eq_true rfl⟩ rfl hl.1 rfl rfl (Nat.le_of_ble_eq_true rfl) dL_law_521 (by cases b <;> exact ⟨by decide, by decide⟩) (fun H locs hR => ?_)
  refine lv_icmp_eq (tgt := 1132) hx hb dL_law_524 (by decide) (fun _ => ?_) (fun q => absurd rfl q)
  exact kk _ _ _ _ g3 hR
set_option maxHeartbeats 4000000 in
set_option maxRecDepth 100000 in
theorem lc_11 (hst : st_11 Inv) (X : CX E p s m #[Value.ref b0] c meth code 4 ret RL) (hXs : va_X b0 L xs s s.heap) (hbl : b0 < s.heap.size) (hE : ¬ fr E b0) (h1 : vp_in (x3 + 1) L) (h2 : vp_in (x3 + 2) L) {t : Nat} {b : Bool} {M : Mem} {H : Heap} {locs : List Loc} {ls : Array Slot} (ht : t < 512) (hI : Inv t b M) (hR : Rl E (sh_ b) (nn b) s.heap M H locs) (hl : lv_has ls 4 [(0, .ref b0), (1, .ref (eB E + 0)), (2, .ref (eB E + 47)), (3, .int x3)])
    (kk : ∀ (b : Bool) (M : Mem) (H : Heap) (locs : List Loc), Inv (t + 1) b M → Rl E (sh_ b) (nn b) s.heap M H locs → W p l e room_1 s m #[Value.ref b0] below meth c H locs (lc b) (lsl b) Q (F0 m 1132 ls [])) : W p l e room_1 s m #[Value.ref b0] below meth c H locs (lc b) (lsl b) Q (F0 m 529 ls []) := by
  obtain ⟨hx, hb, hr, hml, hown, hts, hK, hN, hO, hlk, hbs⟩ := id X
  obtain ⟨r, M1, M2, g1, g2, g3⟩ := hst t b M (xs (ix (x3 + 1))) (xs (ix (x3 + 2))) ht hI
  refine lv_aload_n hx hb dL_law_529 rfl (lv_at hl 1 rfl) ?_
  refine lv_aload_n hx hb dL_law_530 rfl (lv_at hl 0 rfl) ?_
  refine lv_iload_n hx hb dL_law_531 rfl (lv_at hl 3 rfl) ?_
  refine lv_iconst (v := 1) hx hb dL_law_532 (by decide) ?_
  refine lv_iadd hx hb dL_law_533 ?_
  refine va_sld hx hb hXs hbl hE hR.2.1 h1 dL_law_534 ?_
  refine lv_aload_n hx hb dL_law_535 rfl (lv_at hl 0 rfl) ?_
  refine lv_iload_n hx hb dL_law_536 rfl (lv_at hl 3 rfl) ?_
  refine lv_iconst (v := 2) hx hb dL_law_537 (by decide) ?_
  refine lv_iadd hx hb dL_law_538 ?_
  refine va_sld hx hb hXs hbl hE hR.2.1 h2 dL_law_539 ?_
  refine x_callV (k := 0) (As := [.int (xs (ix (x3 + 1))), .int (xs (ix (x3 + 2)))]) (rest := []) (st1 := [.int r]) X hR (ctX10_line g1) ml_L_63 im_X10_line se_X10_line in_X10 co_X10_line yo_X10_line rfl kX10 (z_0 b) ⟨Nat.le_of_ble_eq_true rfl, Nat.le_of_ble_eq_true rfl⟩ rfl hl.1 rfl rfl (Nat.le_of_ble_eq_true rfl) dL_law_540 (by cases b <;> exact ⟨by decide, by decide⟩) (fun H locs hR => ?_)
  refine lv_aload_n hx hb dL_law_543 rfl (lv_at hl 2 rfl) ?_
  refine lv_aload_n hx hb dL_law_544 rfl (lv_at hl 0 rfl) ?_
  refine lv_iload_n hx hb dL_law_545 rfl (lv_at hl 3 rfl) ?_
  refine lv_iconst (v := 1) hx hb dL_law_546 (by decide) ?_
  refine lv_iadd hx hb dL_law_547 ?_
  refine va_sld hx hb hXs hbl hE hR.2.1 h1 dL_law_548 ?_
  refine lv_aload_n hx hb dL_law_549 rfl (lv_at hl 0 rfl) ?_
  refine lv_iload_n hx hb dL_law_550 rfl (lv_at hl 3 rfl) ?_
  refine lv_iconst (v := 2) hx hb dL_law_551 (by decide) ?_
  refine lv_iadd hx hb dL_law_552 ?_
  refine va_sld hx hb hXs hbl hE hR.2.1 h2 dL_law_553 ?_
  refine x_callV (k := 47) (As := [.int (xs (ix (x3 + 1))), .int (xs (ix (x3 + 2)))]) (rest := [.int r]) (st1 := [.int r, .int r]) X hR (ctX11_line g2) ml_L_66 im_X11_line se_X11_line in_X11 co_X11_line yo_X11_line rfl kX11 (z_47 b) ⟨Nat.le_of_ble_eq_true rfl, Nat.le_of_ble_eq_true rfl⟩ rfl hl.1 rfl rfl (Nat.le_of_ble_eq_true rfl) dL_law_554 (by cases b <;> exact ⟨by decide, by decide⟩) (fun H locs hR => ?_)
  refine lv_icmp_eq (tgt := 1132) hx hb dL_law_557 (by decide) (fun _ => ?_) (fun q => absurd rfl q)
  exact kk _ _ _ _ g3 hR
set_option maxHeartbeats 4000000 in
set_option maxRecDepth 100000 in
theorem lc_12 (hst : st_12 Inv) (X : CX E p s m #[Value.ref b0] c meth code 4 ret RL) (hXs : va_X b0 L xs s s.heap) (hbl : b0 < s.heap.size) (hE : ¬ fr E b0) (h1 : vp_in (x3 + 1) L) (h2 : vp_in (x3 + 2) L) {t : Nat} {b : Bool} {M : Mem} {H : Heap} {locs : List Loc} {ls : Array Slot} (ht : t < 512) (hI : Inv t b M) (hR : Rl E (sh_ b) (nn b) s.heap M H locs) (hl : lv_has ls 4 [(0, .ref b0), (1, .ref (eB E + 0)), (2, .ref (eB E + 47)), (3, .int x3)])
    (kk : ∀ (b : Bool) (M : Mem) (H : Heap) (locs : List Loc), Inv (t + 1) b M → Rl E (sh_ b) (nn b) s.heap M H locs → W p l e room_1 s m #[Value.ref b0] below meth c H locs (lc b) (lsl b) Q (F0 m 1132 ls [])) : W p l e room_1 s m #[Value.ref b0] below meth c H locs (lc b) (lsl b) Q (F0 m 562 ls []) := by
  obtain ⟨hx, hb, hr, hml, hown, hts, hK, hN, hO, hlk, hbs⟩ := id X
  obtain ⟨r, M1, M2, g1, g2, g3⟩ := hst t b M (xs (ix (x3 + 1))) (xs (ix (x3 + 2))) ht hI
  refine lv_aload_n hx hb dL_law_562 rfl (lv_at hl 1 rfl) ?_
  refine lv_aload_n hx hb dL_law_563 rfl (lv_at hl 0 rfl) ?_
  refine lv_iload_n hx hb dL_law_564 rfl (lv_at hl 3 rfl) ?_
  refine lv_iconst (v := 1) hx hb dL_law_565 (by decide) ?_
  refine lv_iadd hx hb dL_law_566 ?_
  refine va_sld hx hb hXs hbl hE hR.2.1 h1 dL_law_567 ?_
  refine lv_aload_n hx hb dL_law_568 rfl (lv_at hl 0 rfl) ?_
  refine lv_iload_n hx hb dL_law_569 rfl (lv_at hl 3 rfl) ?_
  refine lv_iconst (v := 2) hx hb dL_law_570 (by decide) ?_
  refine lv_iadd hx hb dL_law_571 ?_
  refine va_sld hx hb hXs hbl hE hR.2.1 h2 dL_law_572 ?_
  refine x_callV (k := 0) (As := [.int (xs (ix (x3 + 1))), .int (xs (ix (x3 + 2)))]) (rest := []) (st1 := [.int r]) X hR (ctX10_middle g1) ml_L_67 im_X10_middle se_X10_middle in_X10 co_X10_middle yo_X10_middle rfl kX10 (z_0 b) ⟨Nat.le_of_ble_eq_true rfl, Nat.le_of_ble_eq_true rfl⟩ rfl hl.1 rfl rfl (Nat.le_of_ble_eq_true rfl) dL_law_573 (by cases b <;> exact ⟨by decide, by decide⟩) (fun H locs hR => ?_)
  refine lv_aload_n hx hb dL_law_576 rfl (lv_at hl 2 rfl) ?_
  refine lv_aload_n hx hb dL_law_577 rfl (lv_at hl 0 rfl) ?_
  refine lv_iload_n hx hb dL_law_578 rfl (lv_at hl 3 rfl) ?_
  refine lv_iconst (v := 1) hx hb dL_law_579 (by decide) ?_
  refine lv_iadd hx hb dL_law_580 ?_
  refine va_sld hx hb hXs hbl hE hR.2.1 h1 dL_law_581 ?_
  refine lv_aload_n hx hb dL_law_582 rfl (lv_at hl 0 rfl) ?_
  refine lv_iload_n hx hb dL_law_583 rfl (lv_at hl 3 rfl) ?_
  refine lv_iconst (v := 2) hx hb dL_law_584 (by decide) ?_
  refine lv_iadd hx hb dL_law_585 ?_
  refine va_sld hx hb hXs hbl hE hR.2.1 h2 dL_law_586 ?_
  refine x_callV (k := 47) (As := [.int (xs (ix (x3 + 1))), .int (xs (ix (x3 + 2)))]) (rest := [.int r]) (st1 := [.int r, .int r]) X hR (ctX11_middle g2) ml_L_70 im_X11_middle se_X11_middle in_X11 co_X11_middle yo_X11_middle rfl kX11 (z_47 b) ⟨Nat.le_of_ble_eq_true rfl, Nat.le_of_ble_eq_true rfl⟩ rfl hl.1 rfl rfl (Nat.le_of_ble_eq_true rfl) dL_law_587 (by cases b <;> exact ⟨by decide, by decide⟩) (fun H locs hR => ?_)
  refine lv_icmp_eq (tgt := 1132) hx hb dL_law_590 (by decide) (fun _ => ?_) (fun q => absurd rfl q)
  exact kk _ _ _ _ g3 hR
set_option maxHeartbeats 4000000 in
set_option maxRecDepth 100000 in
theorem lc_13 (hst : st_13 Inv) (X : CX E p s m #[Value.ref b0] c meth code 4 ret RL) (hXs : va_X b0 L xs s s.heap) (hbl : b0 < s.heap.size) (hE : ¬ fr E b0) (h1 : vp_in (x3 + 1) L) {t : Nat} {b : Bool} {M : Mem} {H : Heap} {locs : List Loc} {ls : Array Slot} (ht : t < 512) (hI : Inv t b M) (hR : Rl E (sh_ b) (nn b) s.heap M H locs) (hl : lv_has ls 4 [(0, .ref b0), (1, .ref (eB E + 0)), (2, .ref (eB E + 47)), (3, .int x3)])
    (kk : ∀ (b : Bool) (M : Mem) (H : Heap) (locs : List Loc), Inv (t + 1) b M → Rl E (sh_ b) (nn b) s.heap M H locs → W p l e room_1 s m #[Value.ref b0] below meth c H locs (lc b) (lsl b) Q (F0 m 1132 ls [])) : W p l e room_1 s m #[Value.ref b0] below meth c H locs (lc b) (lsl b) Q (F0 m 595 ls []) := by
  obtain ⟨hx, hb, hr, hml, hown, hts, hK, hN, hO, hlk, hbs⟩ := id X
  obtain ⟨r, M1, M2, g1, g2, g3⟩ := hst t b M (xs (ix (x3 + 1))) ht hI
  refine lv_aload_n hx hb dL_law_595 rfl (lv_at hl 1 rfl) ?_
  refine lv_aload_n hx hb dL_law_596 rfl (lv_at hl 0 rfl) ?_
  refine lv_iload_n hx hb dL_law_597 rfl (lv_at hl 3 rfl) ?_
  refine lv_iconst (v := 1) hx hb dL_law_598 (by decide) ?_
  refine lv_iadd hx hb dL_law_599 ?_
  refine va_sld hx hb hXs hbl hE hR.2.1 h1 dL_law_600 ?_
  refine x_callV (k := 0) (As := [.int (xs (ix (x3 + 1)))]) (rest := []) (st1 := [.int r]) X hR (ctX10_proof g1) ml_L_71 im_X10_proof se_X10_proof in_X10 co_X10_proof yo_X10_proof rfl kX10 (z_0 b) ⟨Nat.le_of_ble_eq_true rfl, Nat.le_of_ble_eq_true rfl⟩ rfl hl.1 rfl rfl (Nat.le_of_ble_eq_true rfl) dL_law_601 (by cases b <;> exact ⟨by decide, by decide⟩) (fun H locs hR => ?_)
  refine lv_aload_n hx hb dL_law_604 rfl (lv_at hl 2 rfl) ?_
  refine lv_aload_n hx hb dL_law_605 rfl (lv_at hl 0 rfl) ?_
  refine lv_iload_n hx hb dL_law_606 rfl (lv_at hl 3 rfl) ?_
  refine lv_iconst (v := 1) hx hb dL_law_607 (by decide) ?_
  refine lv_iadd hx hb dL_law_608 ?_
  refine va_sld hx hb hXs hbl hE hR.2.1 h1 dL_law_609 ?_
  refine x_callV (k := 47) (As := [.int (xs (ix (x3 + 1)))]) (rest := [.int r]) (st1 := [.int r, .int r]) X hR (ctX11_proof g2) ml_L_75 im_X11_proof se_X11_proof in_X11 co_X11_proof yo_X11_proof rfl kX11 (z_47 b) ⟨Nat.le_of_ble_eq_true rfl, Nat.le_of_ble_eq_true rfl⟩ rfl hl.1 rfl rfl (Nat.le_of_ble_eq_true rfl) dL_law_610 (by cases b <;> exact ⟨by decide, by decide⟩) (fun H locs hR => ?_)
  refine lv_icmp_eq (tgt := 1132) hx hb dL_law_613 (by decide) (fun _ => ?_) (fun q => absurd rfl q)
  exact kk _ _ _ _ g3 hR
set_option maxHeartbeats 4000000 in
set_option maxRecDepth 100000 in
theorem lc_14 (hst : st_14 Inv) (X : CX E p s m #[Value.ref b0] c meth code 4 ret RL) (hXs : va_X b0 L xs s s.heap) (hbl : b0 < s.heap.size) (hE : ¬ fr E b0) (h1 : vp_in (x3 + 1) L) {t : Nat} {b : Bool} {M : Mem} {H : Heap} {locs : List Loc} {ls : Array Slot} (ht : t < 512) (hI : Inv t b M) (hR : Rl E (sh_ b) (nn b) s.heap M H locs) (hl : lv_has ls 4 [(0, .ref b0), (1, .ref (eB E + 0)), (2, .ref (eB E + 47)), (3, .int x3)])
    (kk : ∀ (b : Bool) (M : Mem) (H : Heap) (locs : List Loc), Inv (t + 1) b M → Rl E (sh_ b) (nn b) s.heap M H locs → W p l e room_1 s m #[Value.ref b0] below meth c H locs (lc b) (lsl b) Q (F0 m 1132 ls [])) : W p l e room_1 s m #[Value.ref b0] below meth c H locs (lc b) (lsl b) Q (F0 m 618 ls []) := by
  obtain ⟨hx, hb, hr, hml, hown, hts, hK, hN, hO, hlk, hbs⟩ := id X
  obtain ⟨r, M1, M2, g1, g2, g3⟩ := hst t b M (xs (ix (x3 + 1))) ht hI
  refine lv_aload_n hx hb dL_law_618 rfl (lv_at hl 1 rfl) ?_
  refine lv_aload_n hx hb dL_law_619 rfl (lv_at hl 0 rfl) ?_
  refine lv_iload_n hx hb dL_law_620 rfl (lv_at hl 3 rfl) ?_
  refine lv_iconst (v := 1) hx hb dL_law_621 (by decide) ?_
  refine lv_iadd hx hb dL_law_622 ?_
  refine va_sld hx hb hXs hbl hE hR.2.1 h1 dL_law_623 ?_
  refine x_callV (k := 0) (As := [.int (xs (ix (x3 + 1)))]) (rest := []) (st1 := [.int r]) X hR (ctX10_round g1) ml_L_76 im_X10_round se_X10_round in_X10 co_X10_round yo_X10_round rfl kX10 (z_0 b) ⟨Nat.le_of_ble_eq_true rfl, Nat.le_of_ble_eq_true rfl⟩ rfl hl.1 rfl rfl (Nat.le_of_ble_eq_true rfl) dL_law_624 (by cases b <;> exact ⟨by decide, by decide⟩) (fun H locs hR => ?_)
  refine lv_aload_n hx hb dL_law_627 rfl (lv_at hl 2 rfl) ?_
  refine lv_aload_n hx hb dL_law_628 rfl (lv_at hl 0 rfl) ?_
  refine lv_iload_n hx hb dL_law_629 rfl (lv_at hl 3 rfl) ?_
  refine lv_iconst (v := 1) hx hb dL_law_630 (by decide) ?_
  refine lv_iadd hx hb dL_law_631 ?_
  refine va_sld hx hb hXs hbl hE hR.2.1 h1 dL_law_632 ?_
  refine x_callV (k := 47) (As := [.int (xs (ix (x3 + 1)))]) (rest := [.int r]) (st1 := [.int r, .int r]) X hR (ctX11_round g2) ml_L_79 im_X11_round se_X11_round in_X11 co_X11_round yo_X11_round rfl kX11 (z_47 b) ⟨Nat.le_of_ble_eq_true rfl, Nat.le_of_ble_eq_true rfl⟩ rfl hl.1 rfl rfl (Nat.le_of_ble_eq_true rfl) dL_law_633 (by cases b <;> exact ⟨by decide, by decide⟩) (fun H locs hR => ?_)
  refine lv_icmp_eq (tgt := 1132) hx hb dL_law_636 (by decide) (fun _ => ?_) (fun q => absurd rfl q)
  exact kk _ _ _ _ g3 hR
set_option maxHeartbeats 4000000 in
set_option maxRecDepth 100000 in
theorem lc_15 (hst : st_15 Inv) (X : CX E p s m #[Value.ref b0] c meth code 4 ret RL) (hXs : va_X b0 L xs s s.heap) (hbl : b0 < s.heap.size) (hE : ¬ fr E b0) (h1 : vp_in (x3 + 1) L) (h2 : vp_in (x3 + 2) L) (h3 : vp_in (x3 + 3) L) {t : Nat} {b : Bool} {M : Mem} {H : Heap} {locs : List Loc} {ls : Array Slot} (ht : t < 512) (hI : Inv t b M) (hR : Rl E (sh_ b) (nn b) s.heap M H locs) (hl : lv_has ls 4 [(0, .ref b0), (1, .ref (eB E + 0)), (2, .ref (eB E + 47)), (3, .int x3)])
    (kk : ∀ (b : Bool) (M : Mem) (H : Heap) (locs : List Loc), Inv (t + 1) b M → Rl E (sh_ b) (nn b) s.heap M H locs → W p l e room_1 s m #[Value.ref b0] below meth c H locs (lc b) (lsl b) Q (F0 m 1132 ls [])) : W p l e room_1 s m #[Value.ref b0] below meth c H locs (lc b) (lsl b) Q (F0 m 641 ls []) := by
  obtain ⟨hx, hb, hr, hml, hown, hts, hK, hN, hO, hlk, hbs⟩ := id X
  rcases hst t b M (xs (ix (x3 + 1))) (xs (ix (x3 + 2))) (xs (ix (x3 + 3))) ht hI with ⟨rfl, hst⟩ | ⟨rfl, hst⟩ | ⟨rfl, hst⟩
  · obtain ⟨r, M1, M2, g1, g2, g3⟩ := hst
    refine lv_aload_n hx hb dL_law_641 rfl (lv_at hl 1 rfl) ?_
    refine lv_aload_n hx hb dL_law_642 rfl (lv_at hl 0 rfl) ?_
    refine lv_iload_n hx hb dL_law_643 rfl (lv_at hl 3 rfl) ?_
    refine lv_iconst (v := 1) hx hb dL_law_644 (by decide) ?_
    refine lv_iadd hx hb dL_law_645 ?_
    refine va_sld hx hb hXs hbl hE hR.2.1 h1 dL_law_646 ?_
    refine lv_aload_n hx hb dL_law_647 rfl (lv_at hl 0 rfl) ?_
    refine lv_iload_n hx hb dL_law_648 rfl (lv_at hl 3 rfl) ?_
    refine lv_iconst (v := 2) hx hb dL_law_649 (by decide) ?_
    refine lv_iadd hx hb dL_law_650 ?_
    refine va_sld hx hb hXs hbl hE hR.2.1 h2 dL_law_651 ?_
    refine lv_aload_n hx hb dL_law_652 rfl (lv_at hl 0 rfl) ?_
    refine lv_iload_n hx hb dL_law_653 rfl (lv_at hl 3 rfl) ?_
    refine lv_iconst (v := 3) hx hb dL_law_654 (by decide) ?_
    refine lv_iadd hx hb dL_law_655 ?_
    refine va_sld hx hb hXs hbl hE hR.2.1 h3 dL_law_656 ?_
    refine x_callV (k := 0) (As := [.int (xs (ix (x3 + 1))), .int (xs (ix (x3 + 2))), .int (xs (ix (x3 + 3)))]) (rest := []) (st1 := [.int r]) X hR (ctX10_winSet_T g1) ml_L_80 im_X10_winSet se_X10_winSet in_X10 co_X10_winSet yo_X10_winSet rfl kX10 (z_0 true) ⟨Nat.le_of_ble_eq_true rfl, Nat.le_of_ble_eq_true rfl⟩ rfl hl.1 rfl rfl (Nat.le_of_ble_eq_true rfl) dL_law_657 ⟨by decide, by decide⟩ (fun H locs hR => ?_)
    refine lv_aload_n hx hb dL_law_660 rfl (lv_at hl 2 rfl) ?_
    refine lv_aload_n hx hb dL_law_661 rfl (lv_at hl 0 rfl) ?_
    refine lv_iload_n hx hb dL_law_662 rfl (lv_at hl 3 rfl) ?_
    refine lv_iconst (v := 1) hx hb dL_law_663 (by decide) ?_
    refine lv_iadd hx hb dL_law_664 ?_
    refine va_sld hx hb hXs hbl hE hR.2.1 h1 dL_law_665 ?_
    refine lv_aload_n hx hb dL_law_666 rfl (lv_at hl 0 rfl) ?_
    refine lv_iload_n hx hb dL_law_667 rfl (lv_at hl 3 rfl) ?_
    refine lv_iconst (v := 2) hx hb dL_law_668 (by decide) ?_
    refine lv_iadd hx hb dL_law_669 ?_
    refine va_sld hx hb hXs hbl hE hR.2.1 h2 dL_law_670 ?_
    refine lv_aload_n hx hb dL_law_671 rfl (lv_at hl 0 rfl) ?_
    refine lv_iload_n hx hb dL_law_672 rfl (lv_at hl 3 rfl) ?_
    refine lv_iconst (v := 3) hx hb dL_law_673 (by decide) ?_
    refine lv_iadd hx hb dL_law_674 ?_
    refine va_sld hx hb hXs hbl hE hR.2.1 h3 dL_law_675 ?_
    refine x_callV (k := 47) (As := [.int (xs (ix (x3 + 1))), .int (xs (ix (x3 + 2))), .int (xs (ix (x3 + 3)))]) (rest := [.int r]) (st1 := [.int r, .int r]) X hR (ctX11_winSet g2) ml_L_83 im_X11_winSet se_X11_winSet in_X11 co_X11_winSet yo_X11_winSet rfl kX11 (z_47 true) ⟨Nat.le_of_ble_eq_true rfl, Nat.le_of_ble_eq_true rfl⟩ rfl hl.1 rfl rfl (Nat.le_of_ble_eq_true rfl) dL_law_676 ⟨by decide, by decide⟩ (fun H locs hR => ?_)
    refine lv_icmp_eq (tgt := 1132) hx hb dL_law_679 (by decide) (fun _ => ?_) (fun q => absurd rfl q)
    exact kk _ _ _ _ g3 hR
  · obtain ⟨r, M2, g1, g2, g3⟩ := hst
    refine lv_aload_n hx hb dL_law_641 rfl (lv_at hl 1 rfl) ?_
    refine lv_aload_n hx hb dL_law_642 rfl (lv_at hl 0 rfl) ?_
    refine lv_iload_n hx hb dL_law_643 rfl (lv_at hl 3 rfl) ?_
    refine lv_iconst (v := 1) hx hb dL_law_644 (by decide) ?_
    refine lv_iadd hx hb dL_law_645 ?_
    refine va_sld hx hb hXs hbl hE hR.2.1 h1 dL_law_646 ?_
    refine lv_aload_n hx hb dL_law_647 rfl (lv_at hl 0 rfl) ?_
    refine lv_iload_n hx hb dL_law_648 rfl (lv_at hl 3 rfl) ?_
    refine lv_iconst (v := 2) hx hb dL_law_649 (by decide) ?_
    refine lv_iadd hx hb dL_law_650 ?_
    refine va_sld hx hb hXs hbl hE hR.2.1 h2 dL_law_651 ?_
    refine lv_aload_n hx hb dL_law_652 rfl (lv_at hl 0 rfl) ?_
    refine lv_iload_n hx hb dL_law_653 rfl (lv_at hl 3 rfl) ?_
    refine lv_iconst (v := 3) hx hb dL_law_654 (by decide) ?_
    refine lv_iadd hx hb dL_law_655 ?_
    refine va_sld hx hb hXs hbl hE hR.2.1 h3 dL_law_656 ?_
    refine x_callV (k := 0) (As := [.int (xs (ix (x3 + 1))), .int (xs (ix (x3 + 2))), .int (xs (ix (x3 + 3)))]) (rest := []) (st1 := [.int r]) X hR (ctX10_winSet_E g1) ml_L_80 im_X10_winSet se_X10_winSet in_X10 co_X10_winSet yo_X10_winSet rfl kX10 (z_0 false) ⟨Nat.le_of_ble_eq_true rfl, Nat.le_of_ble_eq_true rfl⟩ rfl hl.1 rfl rfl (Nat.le_of_ble_eq_true rfl) dL_law_657 ⟨by decide, by decide⟩ (fun H locs hR => ?_)
    refine lv_aload_n hx hb dL_law_660 rfl (lv_at hl 2 rfl) ?_
    refine lv_aload_n hx hb dL_law_661 rfl (lv_at hl 0 rfl) ?_
    refine lv_iload_n hx hb dL_law_662 rfl (lv_at hl 3 rfl) ?_
    refine lv_iconst (v := 1) hx hb dL_law_663 (by decide) ?_
    refine lv_iadd hx hb dL_law_664 ?_
    refine va_sld hx hb hXs hbl hE hR.2.1 h1 dL_law_665 ?_
    refine lv_aload_n hx hb dL_law_666 rfl (lv_at hl 0 rfl) ?_
    refine lv_iload_n hx hb dL_law_667 rfl (lv_at hl 3 rfl) ?_
    refine lv_iconst (v := 2) hx hb dL_law_668 (by decide) ?_
    refine lv_iadd hx hb dL_law_669 ?_
    refine va_sld hx hb hXs hbl hE hR.2.1 h2 dL_law_670 ?_
    refine lv_aload_n hx hb dL_law_671 rfl (lv_at hl 0 rfl) ?_
    refine lv_iload_n hx hb dL_law_672 rfl (lv_at hl 3 rfl) ?_
    refine lv_iconst (v := 3) hx hb dL_law_673 (by decide) ?_
    refine lv_iadd hx hb dL_law_674 ?_
    refine va_sld hx hb hXs hbl hE hR.2.1 h3 dL_law_675 ?_
    refine x_callV (k := 47) (As := [.int (xs (ix (x3 + 1))), .int (xs (ix (x3 + 2))), .int (xs (ix (x3 + 3)))]) (rest := [.int r]) (st1 := [.int r, .int r]) X hR (ctX11_winSet g2) ml_L_83 im_X11_winSet se_X11_winSet in_X11 co_X11_winSet yo_X11_winSet rfl kX11 (z_47 false) ⟨Nat.le_of_ble_eq_true rfl, Nat.le_of_ble_eq_true rfl⟩ rfl hl.1 rfl rfl (Nat.le_of_ble_eq_true rfl) dL_law_676 ⟨by decide, by decide⟩ (fun H locs hR => ?_)
    refine lv_icmp_eq (tgt := 1132) hx hb dL_law_679 (by decide) (fun _ => ?_) (fun q => absurd rfl q)
    exact kk _ _ _ _ g3 hR
  · obtain ⟨r, M1, M2, g1, g2, g3⟩ := hst
    refine lv_aload_n hx hb dL_law_641 rfl (lv_at hl 1 rfl) ?_
    refine lv_aload_n hx hb dL_law_642 rfl (lv_at hl 0 rfl) ?_
    refine lv_iload_n hx hb dL_law_643 rfl (lv_at hl 3 rfl) ?_
    refine lv_iconst (v := 1) hx hb dL_law_644 (by decide) ?_
    refine lv_iadd hx hb dL_law_645 ?_
    refine va_sld hx hb hXs hbl hE hR.2.1 h1 dL_law_646 ?_
    refine lv_aload_n hx hb dL_law_647 rfl (lv_at hl 0 rfl) ?_
    refine lv_iload_n hx hb dL_law_648 rfl (lv_at hl 3 rfl) ?_
    refine lv_iconst (v := 2) hx hb dL_law_649 (by decide) ?_
    refine lv_iadd hx hb dL_law_650 ?_
    refine va_sld hx hb hXs hbl hE hR.2.1 h2 dL_law_651 ?_
    refine lv_aload_n hx hb dL_law_652 rfl (lv_at hl 0 rfl) ?_
    refine lv_iload_n hx hb dL_law_653 rfl (lv_at hl 3 rfl) ?_
    refine lv_iconst (v := 3) hx hb dL_law_654 (by decide) ?_
    refine lv_iadd hx hb dL_law_655 ?_
    refine va_sld hx hb hXs hbl hE hR.2.1 h3 dL_law_656 ?_
    refine x_callV (k := 0) (As := [.int (xs (ix (x3 + 1))), .int (xs (ix (x3 + 2))), .int (xs (ix (x3 + 3)))]) (rest := []) (st1 := [.int r]) X hR (ctX10_winSet_F g1) ml_L_80 im_X10_winSet se_X10_winSet in_X10 co_X10_winSet yo_X10_winSet rfl kX10 (z_0 false) ⟨Nat.le_of_ble_eq_true rfl, Nat.le_of_ble_eq_true rfl⟩ rfl hl.1 rfl rfl (Nat.le_of_ble_eq_true rfl) dL_law_657 ⟨by decide, by decide⟩ (fun H locs hR => ?_)
    refine lv_aload_n hx hb dL_law_660 rfl (lv_at hl 2 rfl) ?_
    refine lv_aload_n hx hb dL_law_661 rfl (lv_at hl 0 rfl) ?_
    refine lv_iload_n hx hb dL_law_662 rfl (lv_at hl 3 rfl) ?_
    refine lv_iconst (v := 1) hx hb dL_law_663 (by decide) ?_
    refine lv_iadd hx hb dL_law_664 ?_
    refine va_sld hx hb hXs hbl hE hR.2.1 h1 dL_law_665 ?_
    refine lv_aload_n hx hb dL_law_666 rfl (lv_at hl 0 rfl) ?_
    refine lv_iload_n hx hb dL_law_667 rfl (lv_at hl 3 rfl) ?_
    refine lv_iconst (v := 2) hx hb dL_law_668 (by decide) ?_
    refine lv_iadd hx hb dL_law_669 ?_
    refine va_sld hx hb hXs hbl hE hR.2.1 h2 dL_law_670 ?_
    refine lv_aload_n hx hb dL_law_671 rfl (lv_at hl 0 rfl) ?_
    refine lv_iload_n hx hb dL_law_672 rfl (lv_at hl 3 rfl) ?_
    refine lv_iconst (v := 3) hx hb dL_law_673 (by decide) ?_
    refine lv_iadd hx hb dL_law_674 ?_
    refine va_sld hx hb hXs hbl hE hR.2.1 h3 dL_law_675 ?_
    refine x_callV (k := 47) (As := [.int (xs (ix (x3 + 1))), .int (xs (ix (x3 + 2))), .int (xs (ix (x3 + 3)))]) (rest := [.int r]) (st1 := [.int r, .int r]) X hR (ctX11_winSet g2) ml_L_83 im_X11_winSet se_X11_winSet in_X11 co_X11_winSet yo_X11_winSet rfl kX11 (z_47 true) ⟨Nat.le_of_ble_eq_true rfl, Nat.le_of_ble_eq_true rfl⟩ rfl hl.1 rfl rfl (Nat.le_of_ble_eq_true rfl) dL_law_676 ⟨by decide, by decide⟩ (fun H locs hR => ?_)
    refine lv_icmp_eq (tgt := 1132) hx hb dL_law_679 (by decide) (fun _ => ?_) (fun q => absurd rfl q)
    exact kk _ _ _ _ g3 hR
set_option maxHeartbeats 4000000 in
set_option maxRecDepth 100000 in
theorem lc_16 (hst : st_16 Inv) (X : CX E p s m #[Value.ref b0] c meth code 4 ret RL) (hXs : va_X b0 L xs s s.heap) (hbl : b0 < s.heap.size) (hE : ¬ fr E b0) (h1 : vp_in (x3 + 1) L) (h2 : vp_in (x3 + 2) L) (h3 : vp_in (x3 + 3) L) (h4 : vp_in (x3 + 4) L) {t : Nat} {b : Bool} {M : Mem} {H : Heap} {locs : List Loc} {ls : Array Slot} (ht : t < 512) (hI : Inv t b M) (hR : Rl E (sh_ b) (nn b) s.heap M H locs) (hl : lv_has ls 4 [(0, .ref b0), (1, .ref (eB E + 0)), (2, .ref (eB E + 47)), (3, .int x3)])
    (kk : ∀ (b : Bool) (M : Mem) (H : Heap) (locs : List Loc), Inv (t + 1) b M → Rl E (sh_ b) (nn b) s.heap M H locs → W p l e room_1 s m #[Value.ref b0] below meth c H locs (lc b) (lsl b) Q (F0 m 1132 ls [])) : W p l e room_1 s m #[Value.ref b0] below meth c H locs (lc b) (lsl b) Q (F0 m 684 ls []) := by
  obtain ⟨hx, hb, hr, hml, hown, hts, hK, hN, hO, hlk, hbs⟩ := id X
  rcases hst t b M (xs (ix (x3 + 1))) (xs (ix (x3 + 2))) (xs (ix (x3 + 3))) (xs (ix (x3 + 4))) ht hI with ⟨rfl, hst⟩ | ⟨rfl, hst⟩ | ⟨rfl, hst⟩
  · obtain ⟨r, M1, M2, g1, g2, g3⟩ := hst
    refine lv_aload_n hx hb dL_law_684 rfl (lv_at hl 1 rfl) ?_
    refine lv_aload_n hx hb dL_law_685 rfl (lv_at hl 0 rfl) ?_
    refine lv_iload_n hx hb dL_law_686 rfl (lv_at hl 3 rfl) ?_
    refine lv_iconst (v := 1) hx hb dL_law_687 (by decide) ?_
    refine lv_iadd hx hb dL_law_688 ?_
    refine va_sld hx hb hXs hbl hE hR.2.1 h1 dL_law_689 ?_
    refine lv_aload_n hx hb dL_law_690 rfl (lv_at hl 0 rfl) ?_
    refine lv_iload_n hx hb dL_law_691 rfl (lv_at hl 3 rfl) ?_
    refine lv_iconst (v := 2) hx hb dL_law_692 (by decide) ?_
    refine lv_iadd hx hb dL_law_693 ?_
    refine va_sld hx hb hXs hbl hE hR.2.1 h2 dL_law_694 ?_
    refine lv_aload_n hx hb dL_law_695 rfl (lv_at hl 0 rfl) ?_
    refine lv_iload_n hx hb dL_law_696 rfl (lv_at hl 3 rfl) ?_
    refine lv_iconst (v := 3) hx hb dL_law_697 (by decide) ?_
    refine lv_iadd hx hb dL_law_698 ?_
    refine va_sld hx hb hXs hbl hE hR.2.1 h3 dL_law_699 ?_
    refine lv_aload_n hx hb dL_law_700 rfl (lv_at hl 0 rfl) ?_
    refine lv_iload_n hx hb dL_law_701 rfl (lv_at hl 3 rfl) ?_
    refine lv_iconst (v := 4) hx hb dL_law_702 (by decide) ?_
    refine lv_iadd hx hb dL_law_703 ?_
    refine va_sld hx hb hXs hbl hE hR.2.1 h4 dL_law_704 ?_
    refine x_callV (k := 0) (As := [.int (xs (ix (x3 + 1))), .int (xs (ix (x3 + 2))), .int (xs (ix (x3 + 3))), .int (xs (ix (x3 + 4)))]) (rest := []) (st1 := [.int r]) X hR (ctX10_piece_T g1) ml_L_84 im_X10_piece se_X10_piece in_X10 co_X10_piece yo_X10_piece rfl kX10 (z_0 true) ⟨Nat.le_of_ble_eq_true rfl, Nat.le_of_ble_eq_true rfl⟩ rfl hl.1 rfl rfl (Nat.le_of_ble_eq_true rfl) dL_law_705 ⟨by decide, by decide⟩ (fun H locs hR => ?_)
    refine lv_aload_n hx hb dL_law_708 rfl (lv_at hl 2 rfl) ?_
    refine lv_aload_n hx hb dL_law_709 rfl (lv_at hl 0 rfl) ?_
    refine lv_iload_n hx hb dL_law_710 rfl (lv_at hl 3 rfl) ?_
    refine lv_iconst (v := 1) hx hb dL_law_711 (by decide) ?_
    refine lv_iadd hx hb dL_law_712 ?_
    refine va_sld hx hb hXs hbl hE hR.2.1 h1 dL_law_713 ?_
    refine lv_aload_n hx hb dL_law_714 rfl (lv_at hl 0 rfl) ?_
    refine lv_iload_n hx hb dL_law_715 rfl (lv_at hl 3 rfl) ?_
    refine lv_iconst (v := 2) hx hb dL_law_716 (by decide) ?_
    refine lv_iadd hx hb dL_law_717 ?_
    refine va_sld hx hb hXs hbl hE hR.2.1 h2 dL_law_718 ?_
    refine lv_aload_n hx hb dL_law_719 rfl (lv_at hl 0 rfl) ?_
    refine lv_iload_n hx hb dL_law_720 rfl (lv_at hl 3 rfl) ?_
    refine lv_iconst (v := 3) hx hb dL_law_721 (by decide) ?_
    refine lv_iadd hx hb dL_law_722 ?_
    refine va_sld hx hb hXs hbl hE hR.2.1 h3 dL_law_723 ?_
    refine lv_aload_n hx hb dL_law_724 rfl (lv_at hl 0 rfl) ?_
    refine lv_iload_n hx hb dL_law_725 rfl (lv_at hl 3 rfl) ?_
    refine lv_iconst (v := 4) hx hb dL_law_726 (by decide) ?_
    refine lv_iadd hx hb dL_law_727 ?_
    refine va_sld hx hb hXs hbl hE hR.2.1 h4 dL_law_728 ?_
    refine x_callV (k := 47) (As := [.int (xs (ix (x3 + 1))), .int (xs (ix (x3 + 2))), .int (xs (ix (x3 + 3))), .int (xs (ix (x3 + 4)))]) (rest := [.int r]) (st1 := [.int r, .int r]) X hR (ctX11_piece g2) ml_L_88 im_X11_piece se_X11_piece in_X11 co_X11_piece yo_X11_piece rfl kX11 (z_47 true) ⟨Nat.le_of_ble_eq_true rfl, Nat.le_of_ble_eq_true rfl⟩ rfl hl.1 rfl rfl (Nat.le_of_ble_eq_true rfl) dL_law_729 ⟨by decide, by decide⟩ (fun H locs hR => ?_)
    refine lv_icmp_eq (tgt := 1132) hx hb dL_law_732 (by decide) (fun _ => ?_) (fun q => absurd rfl q)
    exact kk _ _ _ _ g3 hR
  · obtain ⟨r, M2, g1, g2, g3⟩ := hst
    refine lv_aload_n hx hb dL_law_684 rfl (lv_at hl 1 rfl) ?_
    refine lv_aload_n hx hb dL_law_685 rfl (lv_at hl 0 rfl) ?_
    refine lv_iload_n hx hb dL_law_686 rfl (lv_at hl 3 rfl) ?_
    refine lv_iconst (v := 1) hx hb dL_law_687 (by decide) ?_
    refine lv_iadd hx hb dL_law_688 ?_
    refine va_sld hx hb hXs hbl hE hR.2.1 h1 dL_law_689 ?_
    refine lv_aload_n hx hb dL_law_690 rfl (lv_at hl 0 rfl) ?_
    refine lv_iload_n hx hb dL_law_691 rfl (lv_at hl 3 rfl) ?_
    refine lv_iconst (v := 2) hx hb dL_law_692 (by decide) ?_
    refine lv_iadd hx hb dL_law_693 ?_
    refine va_sld hx hb hXs hbl hE hR.2.1 h2 dL_law_694 ?_
    refine lv_aload_n hx hb dL_law_695 rfl (lv_at hl 0 rfl) ?_
    refine lv_iload_n hx hb dL_law_696 rfl (lv_at hl 3 rfl) ?_
    refine lv_iconst (v := 3) hx hb dL_law_697 (by decide) ?_
    refine lv_iadd hx hb dL_law_698 ?_
    refine va_sld hx hb hXs hbl hE hR.2.1 h3 dL_law_699 ?_
    refine lv_aload_n hx hb dL_law_700 rfl (lv_at hl 0 rfl) ?_
    refine lv_iload_n hx hb dL_law_701 rfl (lv_at hl 3 rfl) ?_
    refine lv_iconst (v := 4) hx hb dL_law_702 (by decide) ?_
    refine lv_iadd hx hb dL_law_703 ?_
    refine va_sld hx hb hXs hbl hE hR.2.1 h4 dL_law_704 ?_
    refine x_callV (k := 0) (As := [.int (xs (ix (x3 + 1))), .int (xs (ix (x3 + 2))), .int (xs (ix (x3 + 3))), .int (xs (ix (x3 + 4)))]) (rest := []) (st1 := [.int r]) X hR (ctX10_piece_E g1) ml_L_84 im_X10_piece se_X10_piece in_X10 co_X10_piece yo_X10_piece rfl kX10 (z_0 false) ⟨Nat.le_of_ble_eq_true rfl, Nat.le_of_ble_eq_true rfl⟩ rfl hl.1 rfl rfl (Nat.le_of_ble_eq_true rfl) dL_law_705 ⟨by decide, by decide⟩ (fun H locs hR => ?_)
    refine lv_aload_n hx hb dL_law_708 rfl (lv_at hl 2 rfl) ?_
    refine lv_aload_n hx hb dL_law_709 rfl (lv_at hl 0 rfl) ?_
    refine lv_iload_n hx hb dL_law_710 rfl (lv_at hl 3 rfl) ?_
    refine lv_iconst (v := 1) hx hb dL_law_711 (by decide) ?_
    refine lv_iadd hx hb dL_law_712 ?_
    refine va_sld hx hb hXs hbl hE hR.2.1 h1 dL_law_713 ?_
    refine lv_aload_n hx hb dL_law_714 rfl (lv_at hl 0 rfl) ?_
    refine lv_iload_n hx hb dL_law_715 rfl (lv_at hl 3 rfl) ?_
    refine lv_iconst (v := 2) hx hb dL_law_716 (by decide) ?_
    refine lv_iadd hx hb dL_law_717 ?_
    refine va_sld hx hb hXs hbl hE hR.2.1 h2 dL_law_718 ?_
    refine lv_aload_n hx hb dL_law_719 rfl (lv_at hl 0 rfl) ?_
    refine lv_iload_n hx hb dL_law_720 rfl (lv_at hl 3 rfl) ?_
    refine lv_iconst (v := 3) hx hb dL_law_721 (by decide) ?_
    refine lv_iadd hx hb dL_law_722 ?_
    refine va_sld hx hb hXs hbl hE hR.2.1 h3 dL_law_723 ?_
    refine lv_aload_n hx hb dL_law_724 rfl (lv_at hl 0 rfl) ?_
    refine lv_iload_n hx hb dL_law_725 rfl (lv_at hl 3 rfl) ?_
    refine lv_iconst (v := 4) hx hb dL_law_726 (by decide) ?_
    refine lv_iadd hx hb dL_law_727 ?_
    refine va_sld hx hb hXs hbl hE hR.2.1 h4 dL_law_728 ?_
    refine x_callV (k := 47) (As := [.int (xs (ix (x3 + 1))), .int (xs (ix (x3 + 2))), .int (xs (ix (x3 + 3))), .int (xs (ix (x3 + 4)))]) (rest := [.int r]) (st1 := [.int r, .int r]) X hR (ctX11_piece g2) ml_L_88 im_X11_piece se_X11_piece in_X11 co_X11_piece yo_X11_piece rfl kX11 (z_47 false) ⟨Nat.le_of_ble_eq_true rfl, Nat.le_of_ble_eq_true rfl⟩ rfl hl.1 rfl rfl (Nat.le_of_ble_eq_true rfl) dL_law_729 ⟨by decide, by decide⟩ (fun H locs hR => ?_)
    refine lv_icmp_eq (tgt := 1132) hx hb dL_law_732 (by decide) (fun _ => ?_) (fun q => absurd rfl q)
    exact kk _ _ _ _ g3 hR
  · obtain ⟨r, M1, M2, g1, g2, g3⟩ := hst
    refine lv_aload_n hx hb dL_law_684 rfl (lv_at hl 1 rfl) ?_
    refine lv_aload_n hx hb dL_law_685 rfl (lv_at hl 0 rfl) ?_
    refine lv_iload_n hx hb dL_law_686 rfl (lv_at hl 3 rfl) ?_
    refine lv_iconst (v := 1) hx hb dL_law_687 (by decide) ?_
    refine lv_iadd hx hb dL_law_688 ?_
    refine va_sld hx hb hXs hbl hE hR.2.1 h1 dL_law_689 ?_
    refine lv_aload_n hx hb dL_law_690 rfl (lv_at hl 0 rfl) ?_
    refine lv_iload_n hx hb dL_law_691 rfl (lv_at hl 3 rfl) ?_
    refine lv_iconst (v := 2) hx hb dL_law_692 (by decide) ?_
    refine lv_iadd hx hb dL_law_693 ?_
    refine va_sld hx hb hXs hbl hE hR.2.1 h2 dL_law_694 ?_
    refine lv_aload_n hx hb dL_law_695 rfl (lv_at hl 0 rfl) ?_
    refine lv_iload_n hx hb dL_law_696 rfl (lv_at hl 3 rfl) ?_
    refine lv_iconst (v := 3) hx hb dL_law_697 (by decide) ?_
    refine lv_iadd hx hb dL_law_698 ?_
    refine va_sld hx hb hXs hbl hE hR.2.1 h3 dL_law_699 ?_
    refine lv_aload_n hx hb dL_law_700 rfl (lv_at hl 0 rfl) ?_
    refine lv_iload_n hx hb dL_law_701 rfl (lv_at hl 3 rfl) ?_
    refine lv_iconst (v := 4) hx hb dL_law_702 (by decide) ?_
    refine lv_iadd hx hb dL_law_703 ?_
    refine va_sld hx hb hXs hbl hE hR.2.1 h4 dL_law_704 ?_
    refine x_callV (k := 0) (As := [.int (xs (ix (x3 + 1))), .int (xs (ix (x3 + 2))), .int (xs (ix (x3 + 3))), .int (xs (ix (x3 + 4)))]) (rest := []) (st1 := [.int r]) X hR (ctX10_piece_F g1) ml_L_84 im_X10_piece se_X10_piece in_X10 co_X10_piece yo_X10_piece rfl kX10 (z_0 false) ⟨Nat.le_of_ble_eq_true rfl, Nat.le_of_ble_eq_true rfl⟩ rfl hl.1 rfl rfl (Nat.le_of_ble_eq_true rfl) dL_law_705 ⟨by decide, by decide⟩ (fun H locs hR => ?_)
    refine lv_aload_n hx hb dL_law_708 rfl (lv_at hl 2 rfl) ?_
    refine lv_aload_n hx hb dL_law_709 rfl (lv_at hl 0 rfl) ?_
    refine lv_iload_n hx hb dL_law_710 rfl (lv_at hl 3 rfl) ?_
    refine lv_iconst (v := 1) hx hb dL_law_711 (by decide) ?_
    refine lv_iadd hx hb dL_law_712 ?_
    refine va_sld hx hb hXs hbl hE hR.2.1 h1 dL_law_713 ?_
    refine lv_aload_n hx hb dL_law_714 rfl (lv_at hl 0 rfl) ?_
    refine lv_iload_n hx hb dL_law_715 rfl (lv_at hl 3 rfl) ?_
    refine lv_iconst (v := 2) hx hb dL_law_716 (by decide) ?_
    refine lv_iadd hx hb dL_law_717 ?_
    refine va_sld hx hb hXs hbl hE hR.2.1 h2 dL_law_718 ?_
    refine lv_aload_n hx hb dL_law_719 rfl (lv_at hl 0 rfl) ?_
    refine lv_iload_n hx hb dL_law_720 rfl (lv_at hl 3 rfl) ?_
    refine lv_iconst (v := 3) hx hb dL_law_721 (by decide) ?_
    refine lv_iadd hx hb dL_law_722 ?_
    refine va_sld hx hb hXs hbl hE hR.2.1 h3 dL_law_723 ?_
    refine lv_aload_n hx hb dL_law_724 rfl (lv_at hl 0 rfl) ?_
    refine lv_iload_n hx hb dL_law_725 rfl (lv_at hl 3 rfl) ?_
    refine lv_iconst (v := 4) hx hb dL_law_726 (by decide) ?_
    refine lv_iadd hx hb dL_law_727 ?_
    refine va_sld hx hb hXs hbl hE hR.2.1 h4 dL_law_728 ?_
    refine x_callV (k := 47) (As := [.int (xs (ix (x3 + 1))), .int (xs (ix (x3 + 2))), .int (xs (ix (x3 + 3))), .int (xs (ix (x3 + 4)))]) (rest := [.int r]) (st1 := [.int r, .int r]) X hR (ctX11_piece g2) ml_L_88 im_X11_piece se_X11_piece in_X11 co_X11_piece yo_X11_piece rfl kX11 (z_47 true) ⟨Nat.le_of_ble_eq_true rfl, Nat.le_of_ble_eq_true rfl⟩ rfl hl.1 rfl rfl (Nat.le_of_ble_eq_true rfl) dL_law_729 ⟨by decide, by decide⟩ (fun H locs hR => ?_)
    refine lv_icmp_eq (tgt := 1132) hx hb dL_law_732 (by decide) (fun _ => ?_) (fun q => absurd rfl q)
    exact kk _ _ _ _ g3 hR
set_option maxHeartbeats 4000000 in
set_option maxRecDepth 100000 in
theorem lc_17 (hst : st_17 Inv) (X : CX E p s m #[Value.ref b0] c meth code 4 ret RL) (hXs : va_X b0 L xs s s.heap) (hbl : b0 < s.heap.size) (hE : ¬ fr E b0) (h1 : vp_in (x3 + 1) L) (h2 : vp_in (x3 + 2) L) (h3 : vp_in (x3 + 3) L) {t : Nat} {b : Bool} {M : Mem} {H : Heap} {locs : List Loc} {ls : Array Slot} (ht : t < 512) (hI : Inv t b M) (hR : Rl E (sh_ b) (nn b) s.heap M H locs) (hl : lv_has ls 4 [(0, .ref b0), (1, .ref (eB E + 0)), (2, .ref (eB E + 47)), (3, .int x3)])
    (kk : ∀ (b : Bool) (M : Mem) (H : Heap) (locs : List Loc), Inv (t + 1) b M → Rl E (sh_ b) (nn b) s.heap M H locs → W p l e room_1 s m #[Value.ref b0] below meth c H locs (lc b) (lsl b) Q (F0 m 1132 ls [])) : W p l e room_1 s m #[Value.ref b0] below meth c H locs (lc b) (lsl b) Q (F0 m 737 ls []) := by
  obtain ⟨hx, hb, hr, hml, hown, hts, hK, hN, hO, hlk, hbs⟩ := id X
  obtain ⟨r, M1, M2, g1, g2, g3⟩ := hst t b M (xs (ix (x3 + 1))) (xs (ix (x3 + 2))) (xs (ix (x3 + 3))) ht hI
  refine lv_aload_n hx hb dL_law_737 rfl (lv_at hl 1 rfl) ?_
  refine lv_aload_n hx hb dL_law_738 rfl (lv_at hl 0 rfl) ?_
  refine lv_iload_n hx hb dL_law_739 rfl (lv_at hl 3 rfl) ?_
  refine lv_iconst (v := 1) hx hb dL_law_740 (by decide) ?_
  refine lv_iadd hx hb dL_law_741 ?_
  refine va_sld hx hb hXs hbl hE hR.2.1 h1 dL_law_742 ?_
  refine lv_aload_n hx hb dL_law_743 rfl (lv_at hl 0 rfl) ?_
  refine lv_iload_n hx hb dL_law_744 rfl (lv_at hl 3 rfl) ?_
  refine lv_iconst (v := 2) hx hb dL_law_745 (by decide) ?_
  refine lv_iadd hx hb dL_law_746 ?_
  refine va_sld hx hb hXs hbl hE hR.2.1 h2 dL_law_747 ?_
  refine lv_aload_n hx hb dL_law_748 rfl (lv_at hl 0 rfl) ?_
  refine lv_iload_n hx hb dL_law_749 rfl (lv_at hl 3 rfl) ?_
  refine lv_iconst (v := 3) hx hb dL_law_750 (by decide) ?_
  refine lv_iadd hx hb dL_law_751 ?_
  refine va_sld hx hb hXs hbl hE hR.2.1 h3 dL_law_752 ?_
  refine x_callV (k := 0) (As := [.int (xs (ix (x3 + 1))), .int (xs (ix (x3 + 2))), .int (xs (ix (x3 + 3)))]) (rest := []) (st1 := [.int r]) X hR (ctX10_led g1) ml_L_89 im_X10_led se_X10_led in_X10 co_X10_led yo_X10_led rfl kX10 (z_0 b) ⟨Nat.le_of_ble_eq_true rfl, Nat.le_of_ble_eq_true rfl⟩ rfl hl.1 rfl rfl (Nat.le_of_ble_eq_true rfl) dL_law_753 (by cases b <;> exact ⟨by decide, by decide⟩) (fun H locs hR => ?_)
  refine lv_aload_n hx hb dL_law_756 rfl (lv_at hl 2 rfl) ?_
  refine lv_aload_n hx hb dL_law_757 rfl (lv_at hl 0 rfl) ?_
  refine lv_iload_n hx hb dL_law_758 rfl (lv_at hl 3 rfl) ?_
  refine lv_iconst (v := 1) hx hb dL_law_759 (by decide) ?_
  refine lv_iadd hx hb dL_law_760 ?_
  refine va_sld hx hb hXs hbl hE hR.2.1 h1 dL_law_761 ?_
  refine lv_aload_n hx hb dL_law_762 rfl (lv_at hl 0 rfl) ?_
  refine lv_iload_n hx hb dL_law_763 rfl (lv_at hl 3 rfl) ?_
  refine lv_iconst (v := 2) hx hb dL_law_764 (by decide) ?_
  refine lv_iadd hx hb dL_law_765 ?_
  refine va_sld hx hb hXs hbl hE hR.2.1 h2 dL_law_766 ?_
  refine lv_aload_n hx hb dL_law_767 rfl (lv_at hl 0 rfl) ?_
  refine lv_iload_n hx hb dL_law_768 rfl (lv_at hl 3 rfl) ?_
  refine lv_iconst (v := 3) hx hb dL_law_769 (by decide) ?_
  refine lv_iadd hx hb dL_law_770 ?_
  refine va_sld hx hb hXs hbl hE hR.2.1 h3 dL_law_771 ?_
  refine x_callV (k := 47) (As := [.int (xs (ix (x3 + 1))), .int (xs (ix (x3 + 2))), .int (xs (ix (x3 + 3)))]) (rest := [.int r]) (st1 := [.int r, .int r]) X hR (ctX11_led g2) ml_L_92 im_X11_led se_X11_led in_X11 co_X11_led yo_X11_led rfl kX11 (z_47 b) ⟨Nat.le_of_ble_eq_true rfl, Nat.le_of_ble_eq_true rfl⟩ rfl hl.1 rfl rfl (Nat.le_of_ble_eq_true rfl) dL_law_772 (by cases b <;> exact ⟨by decide, by decide⟩) (fun H locs hR => ?_)
  refine lv_icmp_eq (tgt := 1132) hx hb dL_law_775 (by decide) (fun _ => ?_) (fun q => absurd rfl q)
  exact kk _ _ _ _ g3 hR
set_option maxHeartbeats 4000000 in
set_option maxRecDepth 100000 in
theorem lc_18 (hst : st_18 Inv) (X : CX E p s m #[Value.ref b0] c meth code 4 ret RL) (hXs : va_X b0 L xs s s.heap) (hbl : b0 < s.heap.size) (hE : ¬ fr E b0) (h1 : vp_in (x3 + 1) L) {t : Nat} {b : Bool} {M : Mem} {H : Heap} {locs : List Loc} {ls : Array Slot} (ht : t < 512) (hI : Inv t b M) (hR : Rl E (sh_ b) (nn b) s.heap M H locs) (hl : lv_has ls 4 [(0, .ref b0), (1, .ref (eB E + 0)), (2, .ref (eB E + 47)), (3, .int x3)])
    (kk : ∀ (b : Bool) (M : Mem) (H : Heap) (locs : List Loc), Inv (t + 1) b M → Rl E (sh_ b) (nn b) s.heap M H locs → W p l e room_1 s m #[Value.ref b0] below meth c H locs (lc b) (lsl b) Q (F0 m 1132 ls [])) : W p l e room_1 s m #[Value.ref b0] below meth c H locs (lc b) (lsl b) Q (F0 m 780 ls []) := by
  obtain ⟨hx, hb, hr, hml, hown, hts, hK, hN, hO, hlk, hbs⟩ := id X
  obtain ⟨r, M1, M2, g1, g2, g3⟩ := hst t b M (xs (ix (x3 + 1))) ht hI
  refine lv_aload_n hx hb dL_law_780 rfl (lv_at hl 1 rfl) ?_
  refine lv_aload_n hx hb dL_law_781 rfl (lv_at hl 0 rfl) ?_
  refine lv_iload_n hx hb dL_law_782 rfl (lv_at hl 3 rfl) ?_
  refine lv_iconst (v := 1) hx hb dL_law_783 (by decide) ?_
  refine lv_iadd hx hb dL_law_784 ?_
  refine va_sld hx hb hXs hbl hE hR.2.1 h1 dL_law_785 ?_
  refine x_callV (k := 0) (As := [.int (xs (ix (x3 + 1)))]) (rest := []) (st1 := [.int r]) X hR (ctX10_best g1) ml_L_93 im_X10_best se_X10_best in_X10 co_X10_best yo_X10_best rfl kX10 (z_0 b) ⟨Nat.le_of_ble_eq_true rfl, Nat.le_of_ble_eq_true rfl⟩ rfl hl.1 rfl rfl (Nat.le_of_ble_eq_true rfl) dL_law_786 (by cases b <;> exact ⟨by decide, by decide⟩) (fun H locs hR => ?_)
  refine lv_aload_n hx hb dL_law_789 rfl (lv_at hl 2 rfl) ?_
  refine lv_aload_n hx hb dL_law_790 rfl (lv_at hl 0 rfl) ?_
  refine lv_iload_n hx hb dL_law_791 rfl (lv_at hl 3 rfl) ?_
  refine lv_iconst (v := 1) hx hb dL_law_792 (by decide) ?_
  refine lv_iadd hx hb dL_law_793 ?_
  refine va_sld hx hb hXs hbl hE hR.2.1 h1 dL_law_794 ?_
  refine x_callV (k := 47) (As := [.int (xs (ix (x3 + 1)))]) (rest := [.int r]) (st1 := [.int r, .int r]) X hR (ctX11_best g2) ml_L_96 im_X11_best se_X11_best in_X11 co_X11_best yo_X11_best rfl kX11 (z_47 b) ⟨Nat.le_of_ble_eq_true rfl, Nat.le_of_ble_eq_true rfl⟩ rfl hl.1 rfl rfl (Nat.le_of_ble_eq_true rfl) dL_law_795 (by cases b <;> exact ⟨by decide, by decide⟩) (fun H locs hR => ?_)
  refine lv_icmp_eq (tgt := 1132) hx hb dL_law_798 (by decide) (fun _ => ?_) (fun q => absurd rfl q)
  exact kk _ _ _ _ g3 hR
set_option maxHeartbeats 4000000 in
set_option maxRecDepth 100000 in
theorem lc_19 (hst : st_19 Inv) (X : CX E p s m #[Value.ref b0] c meth code 4 ret RL) (hXs : va_X b0 L xs s s.heap) (hbl : b0 < s.heap.size) (hE : ¬ fr E b0) (h1 : vp_in (x3 + 1) L) (h2 : vp_in (x3 + 2) L) {t : Nat} {b : Bool} {M : Mem} {H : Heap} {locs : List Loc} {ls : Array Slot} (ht : t < 512) (hI : Inv t b M) (hR : Rl E (sh_ b) (nn b) s.heap M H locs) (hl : lv_has ls 4 [(0, .ref b0), (1, .ref (eB E + 0)), (2, .ref (eB E + 47)), (3, .int x3)])
    (kk : ∀ (b : Bool) (M : Mem) (H : Heap) (locs : List Loc), Inv (t + 1) b M → Rl E (sh_ b) (nn b) s.heap M H locs → W p l e room_1 s m #[Value.ref b0] below meth c H locs (lc b) (lsl b) Q (F0 m 1132 ls [])) : W p l e room_1 s m #[Value.ref b0] below meth c H locs (lc b) (lsl b) Q (F0 m 803 ls []) := by
  obtain ⟨hx, hb, hr, hml, hown, hts, hK, hN, hO, hlk, hbs⟩ := id X
  rcases hst t b M (xs (ix (x3 + 1))) (xs (ix (x3 + 2))) ht hI with ⟨rfl, hst⟩ | ⟨rfl, hst⟩ | ⟨rfl, hst⟩
  · obtain ⟨r, M1, g1, g2, g3⟩ := hst
    refine lv_aload_n hx hb dL_law_803 rfl (lv_at hl 1 rfl) ?_
    refine lv_aload_n hx hb dL_law_804 rfl (lv_at hl 0 rfl) ?_
    refine lv_iload_n hx hb dL_law_805 rfl (lv_at hl 3 rfl) ?_
    refine lv_iconst (v := 1) hx hb dL_law_806 (by decide) ?_
    refine lv_iadd hx hb dL_law_807 ?_
    refine va_sld hx hb hXs hbl hE hR.2.1 h1 dL_law_808 ?_
    refine lv_aload_n hx hb dL_law_809 rfl (lv_at hl 0 rfl) ?_
    refine lv_iload_n hx hb dL_law_810 rfl (lv_at hl 3 rfl) ?_
    refine lv_iconst (v := 2) hx hb dL_law_811 (by decide) ?_
    refine lv_iadd hx hb dL_law_812 ?_
    refine va_sld hx hb hXs hbl hE hR.2.1 h2 dL_law_813 ?_
    refine x_callV (k := 0) (As := [.int (xs (ix (x3 + 1))), .int (xs (ix (x3 + 2)))]) (rest := []) (st1 := [.int r]) X hR (ctX10_between_T g1) ml_L_97 im_X10_between se_X10_between in_X10 co_X10_between yo_X10_between rfl kX10 (z_0 true) ⟨Nat.le_of_ble_eq_true rfl, Nat.le_of_ble_eq_true rfl⟩ rfl hl.1 rfl rfl (Nat.le_of_ble_eq_true rfl) dL_law_814 ⟨by decide, by decide⟩ (fun H locs hR => ?_)
    refine lv_aload_n hx hb dL_law_817 rfl (lv_at hl 2 rfl) ?_
    refine lv_aload_n hx hb dL_law_818 rfl (lv_at hl 0 rfl) ?_
    refine lv_iload_n hx hb dL_law_819 rfl (lv_at hl 3 rfl) ?_
    refine lv_iconst (v := 1) hx hb dL_law_820 (by decide) ?_
    refine lv_iadd hx hb dL_law_821 ?_
    refine va_sld hx hb hXs hbl hE hR.2.1 h1 dL_law_822 ?_
    refine lv_aload_n hx hb dL_law_823 rfl (lv_at hl 0 rfl) ?_
    refine lv_iload_n hx hb dL_law_824 rfl (lv_at hl 3 rfl) ?_
    refine lv_iconst (v := 2) hx hb dL_law_825 (by decide) ?_
    refine lv_iadd hx hb dL_law_826 ?_
    refine va_sld hx hb hXs hbl hE hR.2.1 h2 dL_law_827 ?_
    refine x_callV (k := 47) (As := [.int (xs (ix (x3 + 1))), .int (xs (ix (x3 + 2)))]) (rest := [.int r]) (st1 := [.int r, .int r]) X hR (ctX11_between g2) ml_L_100 im_X11_between se_X11_between in_X11 co_X11_between yo_X11_between rfl kX11 (z_47 true) ⟨Nat.le_of_ble_eq_true rfl, Nat.le_of_ble_eq_true rfl⟩ rfl hl.1 rfl rfl (Nat.le_of_ble_eq_true rfl) dL_law_828 ⟨by decide, by decide⟩ (fun H locs hR => ?_)
    refine lv_icmp_eq (tgt := 1132) hx hb dL_law_831 (by decide) (fun _ => ?_) (fun q => absurd rfl q)
    exact kk _ _ _ _ g3 hR
  · obtain ⟨r, g1, g2, g3⟩ := hst
    refine lv_aload_n hx hb dL_law_803 rfl (lv_at hl 1 rfl) ?_
    refine lv_aload_n hx hb dL_law_804 rfl (lv_at hl 0 rfl) ?_
    refine lv_iload_n hx hb dL_law_805 rfl (lv_at hl 3 rfl) ?_
    refine lv_iconst (v := 1) hx hb dL_law_806 (by decide) ?_
    refine lv_iadd hx hb dL_law_807 ?_
    refine va_sld hx hb hXs hbl hE hR.2.1 h1 dL_law_808 ?_
    refine lv_aload_n hx hb dL_law_809 rfl (lv_at hl 0 rfl) ?_
    refine lv_iload_n hx hb dL_law_810 rfl (lv_at hl 3 rfl) ?_
    refine lv_iconst (v := 2) hx hb dL_law_811 (by decide) ?_
    refine lv_iadd hx hb dL_law_812 ?_
    refine va_sld hx hb hXs hbl hE hR.2.1 h2 dL_law_813 ?_
    refine x_callV (k := 0) (As := [.int (xs (ix (x3 + 1))), .int (xs (ix (x3 + 2)))]) (rest := []) (st1 := [.int r]) X hR (ctX10_between_E g1) ml_L_97 im_X10_between se_X10_between in_X10 co_X10_between yo_X10_between rfl kX10 (z_0 false) ⟨Nat.le_of_ble_eq_true rfl, Nat.le_of_ble_eq_true rfl⟩ rfl hl.1 rfl rfl (Nat.le_of_ble_eq_true rfl) dL_law_814 ⟨by decide, by decide⟩ (fun H locs hR => ?_)
    refine lv_aload_n hx hb dL_law_817 rfl (lv_at hl 2 rfl) ?_
    refine lv_aload_n hx hb dL_law_818 rfl (lv_at hl 0 rfl) ?_
    refine lv_iload_n hx hb dL_law_819 rfl (lv_at hl 3 rfl) ?_
    refine lv_iconst (v := 1) hx hb dL_law_820 (by decide) ?_
    refine lv_iadd hx hb dL_law_821 ?_
    refine va_sld hx hb hXs hbl hE hR.2.1 h1 dL_law_822 ?_
    refine lv_aload_n hx hb dL_law_823 rfl (lv_at hl 0 rfl) ?_
    refine lv_iload_n hx hb dL_law_824 rfl (lv_at hl 3 rfl) ?_
    refine lv_iconst (v := 2) hx hb dL_law_825 (by decide) ?_
    refine lv_iadd hx hb dL_law_826 ?_
    refine va_sld hx hb hXs hbl hE hR.2.1 h2 dL_law_827 ?_
    refine x_callV (k := 47) (As := [.int (xs (ix (x3 + 1))), .int (xs (ix (x3 + 2)))]) (rest := [.int r]) (st1 := [.int r, .int r]) X hR (ctX11_between g2) ml_L_100 im_X11_between se_X11_between in_X11 co_X11_between yo_X11_between rfl kX11 (z_47 false) ⟨Nat.le_of_ble_eq_true rfl, Nat.le_of_ble_eq_true rfl⟩ rfl hl.1 rfl rfl (Nat.le_of_ble_eq_true rfl) dL_law_828 ⟨by decide, by decide⟩ (fun H locs hR => ?_)
    refine lv_icmp_eq (tgt := 1132) hx hb dL_law_831 (by decide) (fun _ => ?_) (fun q => absurd rfl q)
    exact kk _ _ _ _ g3 hR
  · obtain ⟨r, M1, g1, g2, g3⟩ := hst
    refine lv_aload_n hx hb dL_law_803 rfl (lv_at hl 1 rfl) ?_
    refine lv_aload_n hx hb dL_law_804 rfl (lv_at hl 0 rfl) ?_
    refine lv_iload_n hx hb dL_law_805 rfl (lv_at hl 3 rfl) ?_
    refine lv_iconst (v := 1) hx hb dL_law_806 (by decide) ?_
    refine lv_iadd hx hb dL_law_807 ?_
    refine va_sld hx hb hXs hbl hE hR.2.1 h1 dL_law_808 ?_
    refine lv_aload_n hx hb dL_law_809 rfl (lv_at hl 0 rfl) ?_
    refine lv_iload_n hx hb dL_law_810 rfl (lv_at hl 3 rfl) ?_
    refine lv_iconst (v := 2) hx hb dL_law_811 (by decide) ?_
    refine lv_iadd hx hb dL_law_812 ?_
    refine va_sld hx hb hXs hbl hE hR.2.1 h2 dL_law_813 ?_
    refine x_callV (k := 0) (As := [.int (xs (ix (x3 + 1))), .int (xs (ix (x3 + 2)))]) (rest := []) (st1 := [.int r]) X hR (ctX10_between_F g1) ml_L_97 im_X10_between se_X10_between in_X10 co_X10_between yo_X10_between rfl kX10 (z_0 false) ⟨Nat.le_of_ble_eq_true rfl, Nat.le_of_ble_eq_true rfl⟩ rfl hl.1 rfl rfl (Nat.le_of_ble_eq_true rfl) dL_law_814 ⟨by decide, by decide⟩ (fun H locs hR => ?_)
    refine lv_aload_n hx hb dL_law_817 rfl (lv_at hl 2 rfl) ?_
    refine lv_aload_n hx hb dL_law_818 rfl (lv_at hl 0 rfl) ?_
    refine lv_iload_n hx hb dL_law_819 rfl (lv_at hl 3 rfl) ?_
    refine lv_iconst (v := 1) hx hb dL_law_820 (by decide) ?_
    refine lv_iadd hx hb dL_law_821 ?_
    refine va_sld hx hb hXs hbl hE hR.2.1 h1 dL_law_822 ?_
    refine lv_aload_n hx hb dL_law_823 rfl (lv_at hl 0 rfl) ?_
    refine lv_iload_n hx hb dL_law_824 rfl (lv_at hl 3 rfl) ?_
    refine lv_iconst (v := 2) hx hb dL_law_825 (by decide) ?_
    refine lv_iadd hx hb dL_law_826 ?_
    refine va_sld hx hb hXs hbl hE hR.2.1 h2 dL_law_827 ?_
    refine x_callV (k := 47) (As := [.int (xs (ix (x3 + 1))), .int (xs (ix (x3 + 2)))]) (rest := [.int r]) (st1 := [.int r, .int r]) X hR (ctX11_between g2) ml_L_100 im_X11_between se_X11_between in_X11 co_X11_between yo_X11_between rfl kX11 (z_47 true) ⟨Nat.le_of_ble_eq_true rfl, Nat.le_of_ble_eq_true rfl⟩ rfl hl.1 rfl rfl (Nat.le_of_ble_eq_true rfl) dL_law_828 ⟨by decide, by decide⟩ (fun H locs hR => ?_)
    refine lv_icmp_eq (tgt := 1132) hx hb dL_law_831 (by decide) (fun _ => ?_) (fun q => absurd rfl q)
    exact kk _ _ _ _ g3 hR
set_option maxHeartbeats 4000000 in
set_option maxRecDepth 100000 in
theorem lc_20 (hst : st_20 Inv) (X : CX E p s m #[Value.ref b0] c meth code 4 ret RL) (hXs : va_X b0 L xs s s.heap) (hbl : b0 < s.heap.size) (hE : ¬ fr E b0) {t : Nat} {b : Bool} {M : Mem} {H : Heap} {locs : List Loc} {ls : Array Slot} (ht : t < 512) (hI : Inv t b M) (hR : Rl E (sh_ b) (nn b) s.heap M H locs) (hl : lv_has ls 4 [(0, .ref b0), (1, .ref (eB E + 0)), (2, .ref (eB E + 47)), (3, .int x3)])
    (kk : ∀ (b : Bool) (M : Mem) (H : Heap) (locs : List Loc), Inv (t + 1) b M → Rl E (sh_ b) (nn b) s.heap M H locs → W p l e room_1 s m #[Value.ref b0] below meth c H locs (lc b) (lsl b) Q (F0 m 1132 ls [])) : W p l e room_1 s m #[Value.ref b0] below meth c H locs (lc b) (lsl b) Q (F0 m 836 ls []) := by
  obtain ⟨hx, hb, hr, hml, hown, hts, hK, hN, hO, hlk, hbs⟩ := id X
  obtain ⟨r, M1, g1, g2, g3⟩ := hst t b M  ht hI
  refine lv_aload_n hx hb dL_law_836 rfl (lv_at hl 1 rfl) ?_
  refine x_callV (k := 0) (As := []) (rest := []) (st1 := [.int r]) X hR (ctX10_rest g1) ml_L_101 im_X10_rest se_X10_rest in_X10 co_X10_rest yo_X10_rest rfl kX10 (z_0 b) ⟨Nat.le_of_ble_eq_true rfl, Nat.le_of_ble_eq_true rfl⟩ rfl hl.1 rfl rfl (Nat.le_of_ble_eq_true rfl) dL_law_837 (by cases b <;> exact ⟨by decide, by decide⟩) (fun H locs hR => ?_)
  refine lv_aload_n hx hb dL_law_840 rfl (lv_at hl 2 rfl) ?_
  refine x_callV (k := 47) (As := []) (rest := [.int r]) (st1 := [.int r, .int r]) X hR (ctX11_rest g2) ml_L_104 im_X11_rest se_X11_rest in_X11 co_X11_rest yo_X11_rest rfl kX11 (z_47 b) ⟨Nat.le_of_ble_eq_true rfl, Nat.le_of_ble_eq_true rfl⟩ rfl hl.1 rfl rfl (Nat.le_of_ble_eq_true rfl) dL_law_841 (by cases b <;> exact ⟨by decide, by decide⟩) (fun H locs hR => ?_)
  refine lv_icmp_eq (tgt := 1132) hx hb dL_law_844 (by decide) (fun _ => ?_) (fun q => absurd rfl q)
  exact kk _ _ _ _ g3 hR
set_option maxHeartbeats 4000000 in
set_option maxRecDepth 100000 in
theorem lc_21 (hst : st_21 Inv) (X : CX E p s m #[Value.ref b0] c meth code 4 ret RL) (hXs : va_X b0 L xs s s.heap) (hbl : b0 < s.heap.size) (hE : ¬ fr E b0) (h1 : vp_in (x3 + 1) L) {t : Nat} {b : Bool} {M : Mem} {H : Heap} {locs : List Loc} {ls : Array Slot} (ht : t < 512) (hI : Inv t b M) (hR : Rl E (sh_ b) (nn b) s.heap M H locs) (hl : lv_has ls 4 [(0, .ref b0), (1, .ref (eB E + 0)), (2, .ref (eB E + 47)), (3, .int x3)])
    (kk : ∀ (b : Bool) (M : Mem) (H : Heap) (locs : List Loc), Inv (t + 1) b M → Rl E (sh_ b) (nn b) s.heap M H locs → W p l e room_1 s m #[Value.ref b0] below meth c H locs (lc b) (lsl b) Q (F0 m 1132 ls [])) : W p l e room_1 s m #[Value.ref b0] below meth c H locs (lc b) (lsl b) Q (F0 m 849 ls []) := by
  obtain ⟨hx, hb, hr, hml, hown, hts, hK, hN, hO, hlk, hbs⟩ := id X
  obtain ⟨r, M1, M2, g1, g2, g3⟩ := hst t b M (xs (ix (x3 + 1))) ht hI
  refine lv_aload_n hx hb dL_law_849 rfl (lv_at hl 1 rfl) ?_
  refine lv_aload_n hx hb dL_law_850 rfl (lv_at hl 0 rfl) ?_
  refine lv_iload_n hx hb dL_law_851 rfl (lv_at hl 3 rfl) ?_
  refine lv_iconst (v := 1) hx hb dL_law_852 (by decide) ?_
  refine lv_iadd hx hb dL_law_853 ?_
  refine va_sld hx hb hXs hbl hE hR.2.1 h1 dL_law_854 ?_
  refine x_callV (k := 0) (As := [.int (xs (ix (x3 + 1)))]) (rest := []) (st1 := [.int r]) X hR (ctX10_lot g1) ml_L_105 im_X10_lot se_X10_lot in_X10 co_X10_lot yo_X10_lot rfl kX10 (z_0 b) ⟨Nat.le_of_ble_eq_true rfl, Nat.le_of_ble_eq_true rfl⟩ rfl hl.1 rfl rfl (Nat.le_of_ble_eq_true rfl) dL_law_855 (by cases b <;> exact ⟨by decide, by decide⟩) (fun H locs hR => ?_)
  refine lv_aload_n hx hb dL_law_858 rfl (lv_at hl 2 rfl) ?_
  refine lv_aload_n hx hb dL_law_859 rfl (lv_at hl 0 rfl) ?_
  refine lv_iload_n hx hb dL_law_860 rfl (lv_at hl 3 rfl) ?_
  refine lv_iconst (v := 1) hx hb dL_law_861 (by decide) ?_
  refine lv_iadd hx hb dL_law_862 ?_
  refine va_sld hx hb hXs hbl hE hR.2.1 h1 dL_law_863 ?_
  refine x_callV (k := 47) (As := [.int (xs (ix (x3 + 1)))]) (rest := [.int r]) (st1 := [.int r, .int r]) X hR (ctX11_lot g2) ml_L_108 im_X11_lot se_X11_lot in_X11 co_X11_lot yo_X11_lot rfl kX11 (z_47 b) ⟨Nat.le_of_ble_eq_true rfl, Nat.le_of_ble_eq_true rfl⟩ rfl hl.1 rfl rfl (Nat.le_of_ble_eq_true rfl) dL_law_864 (by cases b <;> exact ⟨by decide, by decide⟩) (fun H locs hR => ?_)
  refine lv_icmp_eq (tgt := 1132) hx hb dL_law_867 (by decide) (fun _ => ?_) (fun q => absurd rfl q)
  exact kk _ _ _ _ g3 hR
set_option maxHeartbeats 4000000 in
set_option maxRecDepth 100000 in
theorem lc_22 (hst : st_22 Inv) (X : CX E p s m #[Value.ref b0] c meth code 4 ret RL) (hXs : va_X b0 L xs s s.heap) (hbl : b0 < s.heap.size) (hE : ¬ fr E b0) (h1 : vp_in (x3 + 1) L) {t : Nat} {b : Bool} {M : Mem} {H : Heap} {locs : List Loc} {ls : Array Slot} (ht : t < 512) (hI : Inv t b M) (hR : Rl E (sh_ b) (nn b) s.heap M H locs) (hl : lv_has ls 4 [(0, .ref b0), (1, .ref (eB E + 0)), (2, .ref (eB E + 47)), (3, .int x3)])
    (kk : ∀ (b : Bool) (M : Mem) (H : Heap) (locs : List Loc), Inv (t + 1) b M → Rl E (sh_ b) (nn b) s.heap M H locs → W p l e room_1 s m #[Value.ref b0] below meth c H locs (lc b) (lsl b) Q (F0 m 1132 ls [])) : W p l e room_1 s m #[Value.ref b0] below meth c H locs (lc b) (lsl b) Q (F0 m 872 ls []) := by
  obtain ⟨hx, hb, hr, hml, hown, hts, hK, hN, hO, hlk, hbs⟩ := id X
  obtain ⟨r, M1, g1, g2, g3⟩ := hst t b M (xs (ix (x3 + 1))) ht hI
  refine lv_aload_n hx hb dL_law_872 rfl (lv_at hl 1 rfl) ?_
  refine lv_aload_n hx hb dL_law_873 rfl (lv_at hl 0 rfl) ?_
  refine lv_iload_n hx hb dL_law_874 rfl (lv_at hl 3 rfl) ?_
  refine lv_iconst (v := 1) hx hb dL_law_875 (by decide) ?_
  refine lv_iadd hx hb dL_law_876 ?_
  refine va_sld hx hb hXs hbl hE hR.2.1 h1 dL_law_877 ?_
  refine x_callV (k := 0) (As := [.int (xs (ix (x3 + 1)))]) (rest := []) (st1 := [.int r]) X hR (ctX10_need g1) ml_L_109 im_X10_need se_X10_need in_X10 co_X10_need yo_X10_need rfl kX10 (z_0 b) ⟨Nat.le_of_ble_eq_true rfl, Nat.le_of_ble_eq_true rfl⟩ rfl hl.1 rfl rfl (Nat.le_of_ble_eq_true rfl) dL_law_878 (by cases b <;> exact ⟨by decide, by decide⟩) (fun H locs hR => ?_)
  refine lv_aload_n hx hb dL_law_881 rfl (lv_at hl 2 rfl) ?_
  refine lv_aload_n hx hb dL_law_882 rfl (lv_at hl 0 rfl) ?_
  refine lv_iload_n hx hb dL_law_883 rfl (lv_at hl 3 rfl) ?_
  refine lv_iconst (v := 1) hx hb dL_law_884 (by decide) ?_
  refine lv_iadd hx hb dL_law_885 ?_
  refine va_sld hx hb hXs hbl hE hR.2.1 h1 dL_law_886 ?_
  refine x_callV (k := 47) (As := [.int (xs (ix (x3 + 1)))]) (rest := [.int r]) (st1 := [.int r, .int r]) X hR (ctX11_need g2) ml_L_112 im_X11_need se_X11_need in_X11 co_X11_need yo_X11_need rfl kX11 (z_47 b) ⟨Nat.le_of_ble_eq_true rfl, Nat.le_of_ble_eq_true rfl⟩ rfl hl.1 rfl rfl (Nat.le_of_ble_eq_true rfl) dL_law_887 (by cases b <;> exact ⟨by decide, by decide⟩) (fun H locs hR => ?_)
  refine lv_icmp_eq (tgt := 1132) hx hb dL_law_890 (by decide) (fun _ => ?_) (fun q => absurd rfl q)
  exact kk _ _ _ _ g3 hR
set_option maxHeartbeats 4000000 in
set_option maxRecDepth 100000 in
theorem lc_23 (hst : st_23 Inv) (X : CX E p s m #[Value.ref b0] c meth code 4 ret RL) (hXs : va_X b0 L xs s s.heap) (hbl : b0 < s.heap.size) (hE : ¬ fr E b0) (h1 : vp_in (x3 + 1) L) (h2 : vp_in (x3 + 2) L) {t : Nat} {b : Bool} {M : Mem} {H : Heap} {locs : List Loc} {ls : Array Slot} (ht : t < 512) (hI : Inv t b M) (hR : Rl E (sh_ b) (nn b) s.heap M H locs) (hl : lv_has ls 4 [(0, .ref b0), (1, .ref (eB E + 0)), (2, .ref (eB E + 47)), (3, .int x3)])
    (kk : ∀ (b : Bool) (M : Mem) (H : Heap) (locs : List Loc), Inv (t + 1) b M → Rl E (sh_ b) (nn b) s.heap M H locs → W p l e room_1 s m #[Value.ref b0] below meth c H locs (lc b) (lsl b) Q (F0 m 1132 ls [])) : W p l e room_1 s m #[Value.ref b0] below meth c H locs (lc b) (lsl b) Q (F0 m 895 ls []) := by
  obtain ⟨hx, hb, hr, hml, hown, hts, hK, hN, hO, hlk, hbs⟩ := id X
  rcases hst t b M (xs (ix (x3 + 1))) (xs (ix (x3 + 2))) ht hI with ⟨rfl, hst⟩ | ⟨rfl, hst⟩ | ⟨rfl, hst⟩
  · obtain ⟨r, M1, g1, g2, g3⟩ := hst
    refine lv_aload_n hx hb dL_law_895 rfl (lv_at hl 1 rfl) ?_
    refine lv_aload_n hx hb dL_law_896 rfl (lv_at hl 0 rfl) ?_
    refine lv_iload_n hx hb dL_law_897 rfl (lv_at hl 3 rfl) ?_
    refine lv_iconst (v := 1) hx hb dL_law_898 (by decide) ?_
    refine lv_iadd hx hb dL_law_899 ?_
    refine va_sld hx hb hXs hbl hE hR.2.1 h1 dL_law_900 ?_
    refine lv_aload_n hx hb dL_law_901 rfl (lv_at hl 0 rfl) ?_
    refine lv_iload_n hx hb dL_law_902 rfl (lv_at hl 3 rfl) ?_
    refine lv_iconst (v := 2) hx hb dL_law_903 (by decide) ?_
    refine lv_iadd hx hb dL_law_904 ?_
    refine va_sld hx hb hXs hbl hE hR.2.1 h2 dL_law_905 ?_
    refine x_callV (k := 0) (As := [.int (xs (ix (x3 + 1))), .int (xs (ix (x3 + 2)))]) (rest := []) (st1 := [.int r]) X hR (ctX10_most_T g1) ml_L_113 im_X10_most se_X10_most in_X10 co_X10_most yo_X10_most rfl kX10 (z_0 true) ⟨Nat.le_of_ble_eq_true rfl, Nat.le_of_ble_eq_true rfl⟩ rfl hl.1 rfl rfl (Nat.le_of_ble_eq_true rfl) dL_law_906 ⟨by decide, by decide⟩ (fun H locs hR => ?_)
    refine lv_aload_n hx hb dL_law_909 rfl (lv_at hl 2 rfl) ?_
    refine lv_aload_n hx hb dL_law_910 rfl (lv_at hl 0 rfl) ?_
    refine lv_iload_n hx hb dL_law_911 rfl (lv_at hl 3 rfl) ?_
    refine lv_iconst (v := 1) hx hb dL_law_912 (by decide) ?_
    refine lv_iadd hx hb dL_law_913 ?_
    refine va_sld hx hb hXs hbl hE hR.2.1 h1 dL_law_914 ?_
    refine lv_aload_n hx hb dL_law_915 rfl (lv_at hl 0 rfl) ?_
    refine lv_iload_n hx hb dL_law_916 rfl (lv_at hl 3 rfl) ?_
    refine lv_iconst (v := 2) hx hb dL_law_917 (by decide) ?_
    refine lv_iadd hx hb dL_law_918 ?_
    refine va_sld hx hb hXs hbl hE hR.2.1 h2 dL_law_919 ?_
    refine x_callV (k := 47) (As := [.int (xs (ix (x3 + 1))), .int (xs (ix (x3 + 2)))]) (rest := [.int r]) (st1 := [.int r, .int r]) X hR (ctX11_most g2) ml_L_116 im_X11_most se_X11_most in_X11 co_X11_most yo_X11_most rfl kX11 (z_47 true) ⟨Nat.le_of_ble_eq_true rfl, Nat.le_of_ble_eq_true rfl⟩ rfl hl.1 rfl rfl (Nat.le_of_ble_eq_true rfl) dL_law_920 ⟨by decide, by decide⟩ (fun H locs hR => ?_)
    refine lv_icmp_eq (tgt := 1132) hx hb dL_law_923 (by decide) (fun _ => ?_) (fun q => absurd rfl q)
    exact kk _ _ _ _ g3 hR
  · obtain ⟨r, g1, g2, g3⟩ := hst
    refine lv_aload_n hx hb dL_law_895 rfl (lv_at hl 1 rfl) ?_
    refine lv_aload_n hx hb dL_law_896 rfl (lv_at hl 0 rfl) ?_
    refine lv_iload_n hx hb dL_law_897 rfl (lv_at hl 3 rfl) ?_
    refine lv_iconst (v := 1) hx hb dL_law_898 (by decide) ?_
    refine lv_iadd hx hb dL_law_899 ?_
    refine va_sld hx hb hXs hbl hE hR.2.1 h1 dL_law_900 ?_
    refine lv_aload_n hx hb dL_law_901 rfl (lv_at hl 0 rfl) ?_
    refine lv_iload_n hx hb dL_law_902 rfl (lv_at hl 3 rfl) ?_
    refine lv_iconst (v := 2) hx hb dL_law_903 (by decide) ?_
    refine lv_iadd hx hb dL_law_904 ?_
    refine va_sld hx hb hXs hbl hE hR.2.1 h2 dL_law_905 ?_
    refine x_callV (k := 0) (As := [.int (xs (ix (x3 + 1))), .int (xs (ix (x3 + 2)))]) (rest := []) (st1 := [.int r]) X hR (ctX10_most_E g1) ml_L_113 im_X10_most se_X10_most in_X10 co_X10_most yo_X10_most rfl kX10 (z_0 false) ⟨Nat.le_of_ble_eq_true rfl, Nat.le_of_ble_eq_true rfl⟩ rfl hl.1 rfl rfl (Nat.le_of_ble_eq_true rfl) dL_law_906 ⟨by decide, by decide⟩ (fun H locs hR => ?_)
    refine lv_aload_n hx hb dL_law_909 rfl (lv_at hl 2 rfl) ?_
    refine lv_aload_n hx hb dL_law_910 rfl (lv_at hl 0 rfl) ?_
    refine lv_iload_n hx hb dL_law_911 rfl (lv_at hl 3 rfl) ?_
    refine lv_iconst (v := 1) hx hb dL_law_912 (by decide) ?_
    refine lv_iadd hx hb dL_law_913 ?_
    refine va_sld hx hb hXs hbl hE hR.2.1 h1 dL_law_914 ?_
    refine lv_aload_n hx hb dL_law_915 rfl (lv_at hl 0 rfl) ?_
    refine lv_iload_n hx hb dL_law_916 rfl (lv_at hl 3 rfl) ?_
    refine lv_iconst (v := 2) hx hb dL_law_917 (by decide) ?_
    refine lv_iadd hx hb dL_law_918 ?_
    refine va_sld hx hb hXs hbl hE hR.2.1 h2 dL_law_919 ?_
    refine x_callV (k := 47) (As := [.int (xs (ix (x3 + 1))), .int (xs (ix (x3 + 2)))]) (rest := [.int r]) (st1 := [.int r, .int r]) X hR (ctX11_most g2) ml_L_116 im_X11_most se_X11_most in_X11 co_X11_most yo_X11_most rfl kX11 (z_47 false) ⟨Nat.le_of_ble_eq_true rfl, Nat.le_of_ble_eq_true rfl⟩ rfl hl.1 rfl rfl (Nat.le_of_ble_eq_true rfl) dL_law_920 ⟨by decide, by decide⟩ (fun H locs hR => ?_)
    refine lv_icmp_eq (tgt := 1132) hx hb dL_law_923 (by decide) (fun _ => ?_) (fun q => absurd rfl q)
    exact kk _ _ _ _ g3 hR
  · obtain ⟨r, M1, g1, g2, g3⟩ := hst
    refine lv_aload_n hx hb dL_law_895 rfl (lv_at hl 1 rfl) ?_
    refine lv_aload_n hx hb dL_law_896 rfl (lv_at hl 0 rfl) ?_
    refine lv_iload_n hx hb dL_law_897 rfl (lv_at hl 3 rfl) ?_
    refine lv_iconst (v := 1) hx hb dL_law_898 (by decide) ?_
    refine lv_iadd hx hb dL_law_899 ?_
    refine va_sld hx hb hXs hbl hE hR.2.1 h1 dL_law_900 ?_
    refine lv_aload_n hx hb dL_law_901 rfl (lv_at hl 0 rfl) ?_
    refine lv_iload_n hx hb dL_law_902 rfl (lv_at hl 3 rfl) ?_
    refine lv_iconst (v := 2) hx hb dL_law_903 (by decide) ?_
    refine lv_iadd hx hb dL_law_904 ?_
    refine va_sld hx hb hXs hbl hE hR.2.1 h2 dL_law_905 ?_
    refine x_callV (k := 0) (As := [.int (xs (ix (x3 + 1))), .int (xs (ix (x3 + 2)))]) (rest := []) (st1 := [.int r]) X hR (ctX10_most_F g1) ml_L_113 im_X10_most se_X10_most in_X10 co_X10_most yo_X10_most rfl kX10 (z_0 false) ⟨Nat.le_of_ble_eq_true rfl, Nat.le_of_ble_eq_true rfl⟩ rfl hl.1 rfl rfl (Nat.le_of_ble_eq_true rfl) dL_law_906 ⟨by decide, by decide⟩ (fun H locs hR => ?_)
    refine lv_aload_n hx hb dL_law_909 rfl (lv_at hl 2 rfl) ?_
    refine lv_aload_n hx hb dL_law_910 rfl (lv_at hl 0 rfl) ?_
    refine lv_iload_n hx hb dL_law_911 rfl (lv_at hl 3 rfl) ?_
    refine lv_iconst (v := 1) hx hb dL_law_912 (by decide) ?_
    refine lv_iadd hx hb dL_law_913 ?_
    refine va_sld hx hb hXs hbl hE hR.2.1 h1 dL_law_914 ?_
    refine lv_aload_n hx hb dL_law_915 rfl (lv_at hl 0 rfl) ?_
    refine lv_iload_n hx hb dL_law_916 rfl (lv_at hl 3 rfl) ?_
    refine lv_iconst (v := 2) hx hb dL_law_917 (by decide) ?_
    refine lv_iadd hx hb dL_law_918 ?_
    refine va_sld hx hb hXs hbl hE hR.2.1 h2 dL_law_919 ?_
    refine x_callV (k := 47) (As := [.int (xs (ix (x3 + 1))), .int (xs (ix (x3 + 2)))]) (rest := [.int r]) (st1 := [.int r, .int r]) X hR (ctX11_most g2) ml_L_116 im_X11_most se_X11_most in_X11 co_X11_most yo_X11_most rfl kX11 (z_47 true) ⟨Nat.le_of_ble_eq_true rfl, Nat.le_of_ble_eq_true rfl⟩ rfl hl.1 rfl rfl (Nat.le_of_ble_eq_true rfl) dL_law_920 ⟨by decide, by decide⟩ (fun H locs hR => ?_)
    refine lv_icmp_eq (tgt := 1132) hx hb dL_law_923 (by decide) (fun _ => ?_) (fun q => absurd rfl q)
    exact kk _ _ _ _ g3 hR
set_option maxHeartbeats 4000000 in
set_option maxRecDepth 100000 in
theorem lc_24 (hst : st_24 Inv) (X : CX E p s m #[Value.ref b0] c meth code 4 ret RL) (hXs : va_X b0 L xs s s.heap) (hbl : b0 < s.heap.size) (hE : ¬ fr E b0) {t : Nat} {b : Bool} {M : Mem} {H : Heap} {locs : List Loc} {ls : Array Slot} (ht : t < 512) (hI : Inv t b M) (hR : Rl E (sh_ b) (nn b) s.heap M H locs) (hl : lv_has ls 4 [(0, .ref b0), (1, .ref (eB E + 0)), (2, .ref (eB E + 47)), (3, .int x3)])
    (kk : ∀ (b : Bool) (M : Mem) (H : Heap) (locs : List Loc), Inv (t + 1) b M → Rl E (sh_ b) (nn b) s.heap M H locs → W p l e room_1 s m #[Value.ref b0] below meth c H locs (lc b) (lsl b) Q (F0 m 1132 ls [])) : W p l e room_1 s m #[Value.ref b0] below meth c H locs (lc b) (lsl b) Q (F0 m 928 ls []) := by
  obtain ⟨hx, hb, hr, hml, hown, hts, hK, hN, hO, hlk, hbs⟩ := id X
  obtain ⟨r, M1, g1, g2, g3⟩ := hst t b M  ht hI
  refine lv_aload_n hx hb dL_law_928 rfl (lv_at hl 1 rfl) ?_
  refine x_callV (k := 0) (As := []) (rest := []) (st1 := [.int r]) X hR (ctX10_peace g1) ml_L_117 im_X10_peace se_X10_peace in_X10 co_X10_peace yo_X10_peace rfl kX10 (z_0 b) ⟨Nat.le_of_ble_eq_true rfl, Nat.le_of_ble_eq_true rfl⟩ rfl hl.1 rfl rfl (Nat.le_of_ble_eq_true rfl) dL_law_929 (by cases b <;> exact ⟨by decide, by decide⟩) (fun H locs hR => ?_)
  refine lv_aload_n hx hb dL_law_932 rfl (lv_at hl 2 rfl) ?_
  refine x_callV (k := 47) (As := []) (rest := [.int r]) (st1 := [.int r, .int r]) X hR (ctX11_peace g2) ml_L_120 im_X11_peace se_X11_peace in_X11 co_X11_peace yo_X11_peace rfl kX11 (z_47 b) ⟨Nat.le_of_ble_eq_true rfl, Nat.le_of_ble_eq_true rfl⟩ rfl hl.1 rfl rfl (Nat.le_of_ble_eq_true rfl) dL_law_933 (by cases b <;> exact ⟨by decide, by decide⟩) (fun H locs hR => ?_)
  refine lv_icmp_eq (tgt := 1132) hx hb dL_law_936 (by decide) (fun _ => ?_) (fun q => absurd rfl q)
  exact kk _ _ _ _ g3 hR
set_option maxHeartbeats 4000000 in
set_option maxRecDepth 100000 in
theorem lc_25 (hst : st_25 Inv) (X : CX E p s m #[Value.ref b0] c meth code 4 ret RL) (hXs : va_X b0 L xs s s.heap) (hbl : b0 < s.heap.size) (hE : ¬ fr E b0) (h1 : vp_in (x3 + 1) L) {t : Nat} {b : Bool} {M : Mem} {H : Heap} {locs : List Loc} {ls : Array Slot} (ht : t < 512) (hI : Inv t b M) (hR : Rl E (sh_ b) (nn b) s.heap M H locs) (hl : lv_has ls 4 [(0, .ref b0), (1, .ref (eB E + 0)), (2, .ref (eB E + 47)), (3, .int x3)])
    (kk : ∀ (b : Bool) (M : Mem) (H : Heap) (locs : List Loc), Inv (t + 1) b M → Rl E (sh_ b) (nn b) s.heap M H locs → W p l e room_1 s m #[Value.ref b0] below meth c H locs (lc b) (lsl b) Q (F0 m 1132 ls [])) : W p l e room_1 s m #[Value.ref b0] below meth c H locs (lc b) (lsl b) Q (F0 m 941 ls []) := by
  obtain ⟨hx, hb, hr, hml, hown, hts, hK, hN, hO, hlk, hbs⟩ := id X
  obtain ⟨r, M1, M2, g1, g2, g3⟩ := hst t b M (xs (ix (x3 + 1))) ht hI
  refine lv_aload_n hx hb dL_law_941 rfl (lv_at hl 1 rfl) ?_
  refine lv_aload_n hx hb dL_law_942 rfl (lv_at hl 0 rfl) ?_
  refine lv_iload_n hx hb dL_law_943 rfl (lv_at hl 3 rfl) ?_
  refine lv_iconst (v := 1) hx hb dL_law_944 (by decide) ?_
  refine lv_iadd hx hb dL_law_945 ?_
  refine va_sld hx hb hXs hbl hE hR.2.1 h1 dL_law_946 ?_
  refine x_callV (k := 0) (As := [.int (xs (ix (x3 + 1)))]) (rest := []) (st1 := [.int r]) X hR (ctX10_make g1) ml_L_121 im_X10_make se_X10_make in_X10 co_X10_make yo_X10_make rfl kX10 (z_0 b) ⟨Nat.le_of_ble_eq_true rfl, Nat.le_of_ble_eq_true rfl⟩ rfl hl.1 rfl rfl (Nat.le_of_ble_eq_true rfl) dL_law_947 (by cases b <;> exact ⟨by decide, by decide⟩) (fun H locs hR => ?_)
  refine lv_aload_n hx hb dL_law_950 rfl (lv_at hl 2 rfl) ?_
  refine lv_aload_n hx hb dL_law_951 rfl (lv_at hl 0 rfl) ?_
  refine lv_iload_n hx hb dL_law_952 rfl (lv_at hl 3 rfl) ?_
  refine lv_iconst (v := 1) hx hb dL_law_953 (by decide) ?_
  refine lv_iadd hx hb dL_law_954 ?_
  refine va_sld hx hb hXs hbl hE hR.2.1 h1 dL_law_955 ?_
  refine x_callV (k := 47) (As := [.int (xs (ix (x3 + 1)))]) (rest := [.int r]) (st1 := [.int r, .int r]) X hR (ctX11_make g2) ml_L_124 im_X11_make se_X11_make in_X11 co_X11_make yo_X11_make rfl kX11 (z_47 b) ⟨Nat.le_of_ble_eq_true rfl, Nat.le_of_ble_eq_true rfl⟩ rfl hl.1 rfl rfl (Nat.le_of_ble_eq_true rfl) dL_law_956 (by cases b <;> exact ⟨by decide, by decide⟩) (fun H locs hR => ?_)
  refine lv_icmp_eq (tgt := 1132) hx hb dL_law_959 (by decide) (fun _ => ?_) (fun q => absurd rfl q)
  exact kk _ _ _ _ g3 hR
set_option maxHeartbeats 4000000 in
set_option maxRecDepth 100000 in
theorem lc_26 (hst : st_26 Inv) (X : CX E p s m #[Value.ref b0] c meth code 4 ret RL) (hXs : va_X b0 L xs s s.heap) (hbl : b0 < s.heap.size) (hE : ¬ fr E b0) (h1 : vp_in (x3 + 1) L) {t : Nat} {b : Bool} {M : Mem} {H : Heap} {locs : List Loc} {ls : Array Slot} (ht : t < 512) (hI : Inv t b M) (hR : Rl E (sh_ b) (nn b) s.heap M H locs) (hl : lv_has ls 4 [(0, .ref b0), (1, .ref (eB E + 0)), (2, .ref (eB E + 47)), (3, .int x3)])
    (kk : ∀ (b : Bool) (M : Mem) (H : Heap) (locs : List Loc), Inv (t + 1) b M → Rl E (sh_ b) (nn b) s.heap M H locs → W p l e room_1 s m #[Value.ref b0] below meth c H locs (lc b) (lsl b) Q (F0 m 1132 ls [])) : W p l e room_1 s m #[Value.ref b0] below meth c H locs (lc b) (lsl b) Q (F0 m 964 ls []) := by
  obtain ⟨hx, hb, hr, hml, hown, hts, hK, hN, hO, hlk, hbs⟩ := id X
  obtain ⟨r, M1, M2, g1, g2, g3⟩ := hst t b M (xs (ix (x3 + 1))) ht hI
  refine lv_aload_n hx hb dL_law_964 rfl (lv_at hl 1 rfl) ?_
  refine lv_aload_n hx hb dL_law_965 rfl (lv_at hl 0 rfl) ?_
  refine lv_iload_n hx hb dL_law_966 rfl (lv_at hl 3 rfl) ?_
  refine lv_iconst (v := 1) hx hb dL_law_967 (by decide) ?_
  refine lv_iadd hx hb dL_law_968 ?_
  refine va_sld hx hb hXs hbl hE hR.2.1 h1 dL_law_969 ?_
  refine x_callV (k := 0) (As := [.int (xs (ix (x3 + 1)))]) (rest := []) (st1 := [.int r]) X hR (ctX10_join g1) ml_L_125 im_X10_join se_X10_join in_X10 co_X10_join yo_X10_join rfl kX10 (z_0 b) ⟨Nat.le_of_ble_eq_true rfl, Nat.le_of_ble_eq_true rfl⟩ rfl hl.1 rfl rfl (Nat.le_of_ble_eq_true rfl) dL_law_970 (by cases b <;> exact ⟨by decide, by decide⟩) (fun H locs hR => ?_)
  refine lv_aload_n hx hb dL_law_973 rfl (lv_at hl 2 rfl) ?_
  refine lv_aload_n hx hb dL_law_974 rfl (lv_at hl 0 rfl) ?_
  refine lv_iload_n hx hb dL_law_975 rfl (lv_at hl 3 rfl) ?_
  refine lv_iconst (v := 1) hx hb dL_law_976 (by decide) ?_
  refine lv_iadd hx hb dL_law_977 ?_
  refine va_sld hx hb hXs hbl hE hR.2.1 h1 dL_law_978 ?_
  refine x_callV (k := 47) (As := [.int (xs (ix (x3 + 1)))]) (rest := [.int r]) (st1 := [.int r, .int r]) X hR (ctX11_join g2) ml_L_128 im_X11_join se_X11_join in_X11 co_X11_join yo_X11_join rfl kX11 (z_47 b) ⟨Nat.le_of_ble_eq_true rfl, Nat.le_of_ble_eq_true rfl⟩ rfl hl.1 rfl rfl (Nat.le_of_ble_eq_true rfl) dL_law_979 (by cases b <;> exact ⟨by decide, by decide⟩) (fun H locs hR => ?_)
  refine lv_icmp_eq (tgt := 1132) hx hb dL_law_982 (by decide) (fun _ => ?_) (fun q => absurd rfl q)
  exact kk _ _ _ _ g3 hR
set_option maxHeartbeats 4000000 in
set_option maxRecDepth 100000 in
theorem lc_27 (hst : st_27 Inv) (X : CX E p s m #[Value.ref b0] c meth code 4 ret RL) (hXs : va_X b0 L xs s s.heap) (hbl : b0 < s.heap.size) (hE : ¬ fr E b0) (h1 : vp_in (x3 + 1) L) (h2 : vp_in (x3 + 2) L) {t : Nat} {b : Bool} {M : Mem} {H : Heap} {locs : List Loc} {ls : Array Slot} (ht : t < 512) (hI : Inv t b M) (hR : Rl E (sh_ b) (nn b) s.heap M H locs) (hl : lv_has ls 4 [(0, .ref b0), (1, .ref (eB E + 0)), (2, .ref (eB E + 47)), (3, .int x3)])
    (kk : ∀ (b : Bool) (M : Mem) (H : Heap) (locs : List Loc), Inv (t + 1) b M → Rl E (sh_ b) (nn b) s.heap M H locs → W p l e room_1 s m #[Value.ref b0] below meth c H locs (lc b) (lsl b) Q (F0 m 1132 ls [])) : W p l e room_1 s m #[Value.ref b0] below meth c H locs (lc b) (lsl b) Q (F0 m 987 ls []) := by
  obtain ⟨hx, hb, hr, hml, hown, hts, hK, hN, hO, hlk, hbs⟩ := id X
  obtain ⟨r, M2, g1, g2, g3⟩ := hst t b M (xs (ix (x3 + 1))) (xs (ix (x3 + 2))) ht hI
  refine lv_aload_n hx hb dL_law_987 rfl (lv_at hl 1 rfl) ?_
  refine lv_aload_n hx hb dL_law_988 rfl (lv_at hl 0 rfl) ?_
  refine lv_iload_n hx hb dL_law_989 rfl (lv_at hl 3 rfl) ?_
  refine lv_iconst (v := 1) hx hb dL_law_990 (by decide) ?_
  refine lv_iadd hx hb dL_law_991 ?_
  refine va_sld hx hb hXs hbl hE hR.2.1 h1 dL_law_992 ?_
  refine lv_aload_n hx hb dL_law_993 rfl (lv_at hl 0 rfl) ?_
  refine lv_iload_n hx hb dL_law_994 rfl (lv_at hl 3 rfl) ?_
  refine lv_iconst (v := 2) hx hb dL_law_995 (by decide) ?_
  refine lv_iadd hx hb dL_law_996 ?_
  refine va_sld hx hb hXs hbl hE hR.2.1 h2 dL_law_997 ?_
  refine x_callV (k := 0) (As := [.int (xs (ix (x3 + 1))), .int (xs (ix (x3 + 2)))]) (rest := []) (st1 := [.int r]) X hR (ctX10_doubt g1) ml_L_129 im_X10_doubt se_X10_doubt in_X10 co_X10_doubt yo_X10_doubt rfl kX10 (z_0 b) ⟨Nat.le_of_ble_eq_true rfl, Nat.le_of_ble_eq_true rfl⟩ rfl hl.1 rfl rfl (Nat.le_of_ble_eq_true rfl) dL_law_998 (by cases b <;> exact ⟨by decide, by decide⟩) (fun H locs hR => ?_)
  refine lv_aload_n hx hb dL_law_1001 rfl (lv_at hl 2 rfl) ?_
  refine lv_aload_n hx hb dL_law_1002 rfl (lv_at hl 0 rfl) ?_
  refine lv_iload_n hx hb dL_law_1003 rfl (lv_at hl 3 rfl) ?_
  refine lv_iconst (v := 1) hx hb dL_law_1004 (by decide) ?_
  refine lv_iadd hx hb dL_law_1005 ?_
  refine va_sld hx hb hXs hbl hE hR.2.1 h1 dL_law_1006 ?_
  refine lv_aload_n hx hb dL_law_1007 rfl (lv_at hl 0 rfl) ?_
  refine lv_iload_n hx hb dL_law_1008 rfl (lv_at hl 3 rfl) ?_
  refine lv_iconst (v := 2) hx hb dL_law_1009 (by decide) ?_
  refine lv_iadd hx hb dL_law_1010 ?_
  refine va_sld hx hb hXs hbl hE hR.2.1 h2 dL_law_1011 ?_
  refine x_callV (k := 47) (As := [.int (xs (ix (x3 + 1))), .int (xs (ix (x3 + 2)))]) (rest := [.int r]) (st1 := [.int r, .int r]) X hR (ctX11_doubt g2) ml_L_132 im_X11_doubt se_X11_doubt in_X11 co_X11_doubt yo_X11_doubt rfl kX11 (z_47 b) ⟨Nat.le_of_ble_eq_true rfl, Nat.le_of_ble_eq_true rfl⟩ rfl hl.1 rfl rfl (Nat.le_of_ble_eq_true rfl) dL_law_1012 (by cases b <;> exact ⟨by decide, by decide⟩) (fun H locs hR => ?_)
  refine lv_icmp_eq (tgt := 1132) hx hb dL_law_1015 (by decide) (fun _ => ?_) (fun q => absurd rfl q)
  exact kk _ _ _ _ g3 hR
set_option maxHeartbeats 4000000 in
set_option maxRecDepth 100000 in
theorem lc_28 (hst : st_28 Inv) (X : CX E p s m #[Value.ref b0] c meth code 4 ret RL) (hXs : va_X b0 L xs s s.heap) (hbl : b0 < s.heap.size) (hE : ¬ fr E b0) (h1 : vp_in (x3 + 1) L) (h2 : vp_in (x3 + 2) L) (h3 : vp_in (x3 + 3) L) {t : Nat} {b : Bool} {M : Mem} {H : Heap} {locs : List Loc} {ls : Array Slot} (ht : t < 512) (hI : Inv t b M) (hR : Rl E (sh_ b) (nn b) s.heap M H locs) (hl : lv_has ls 4 [(0, .ref b0), (1, .ref (eB E + 0)), (2, .ref (eB E + 47)), (3, .int x3)])
    (kk : ∀ (b : Bool) (M : Mem) (H : Heap) (locs : List Loc), Inv (t + 1) b M → Rl E (sh_ b) (nn b) s.heap M H locs → W p l e room_1 s m #[Value.ref b0] below meth c H locs (lc b) (lsl b) Q (F0 m 1132 ls [])) : W p l e room_1 s m #[Value.ref b0] below meth c H locs (lc b) (lsl b) Q (F0 m 1020 ls []) := by
  obtain ⟨hx, hb, hr, hml, hown, hts, hK, hN, hO, hlk, hbs⟩ := id X
  obtain ⟨r, M1, M2, g1, g2, g3⟩ := hst t b M (xs (ix (x3 + 1))) (xs (ix (x3 + 2))) (xs (ix (x3 + 3))) ht hI
  refine lv_aload_n hx hb dL_law_1020 rfl (lv_at hl 1 rfl) ?_
  refine lv_aload_n hx hb dL_law_1021 rfl (lv_at hl 0 rfl) ?_
  refine lv_iload_n hx hb dL_law_1022 rfl (lv_at hl 3 rfl) ?_
  refine lv_iconst (v := 1) hx hb dL_law_1023 (by decide) ?_
  refine lv_iadd hx hb dL_law_1024 ?_
  refine va_sld hx hb hXs hbl hE hR.2.1 h1 dL_law_1025 ?_
  refine lv_aload_n hx hb dL_law_1026 rfl (lv_at hl 0 rfl) ?_
  refine lv_iload_n hx hb dL_law_1027 rfl (lv_at hl 3 rfl) ?_
  refine lv_iconst (v := 2) hx hb dL_law_1028 (by decide) ?_
  refine lv_iadd hx hb dL_law_1029 ?_
  refine va_sld hx hb hXs hbl hE hR.2.1 h2 dL_law_1030 ?_
  refine lv_aload_n hx hb dL_law_1031 rfl (lv_at hl 0 rfl) ?_
  refine lv_iload_n hx hb dL_law_1032 rfl (lv_at hl 3 rfl) ?_
  refine lv_iconst (v := 3) hx hb dL_law_1033 (by decide) ?_
  refine lv_iadd hx hb dL_law_1034 ?_
  refine va_sld hx hb hXs hbl hE hR.2.1 h3 dL_law_1035 ?_
  refine x_callV (k := 0) (As := [.int (xs (ix (x3 + 1))), .int (xs (ix (x3 + 2))), .int (xs (ix (x3 + 3)))]) (rest := []) (st1 := [.int r]) X hR (ctX10_move g1) ml_L_133 im_X10_move se_X10_move in_X10 co_X10_move yo_X10_move rfl kX10 (z_0 b) ⟨Nat.le_of_ble_eq_true rfl, Nat.le_of_ble_eq_true rfl⟩ rfl hl.1 rfl rfl (Nat.le_of_ble_eq_true rfl) dL_law_1036 (by cases b <;> exact ⟨by decide, by decide⟩) (fun H locs hR => ?_)
  refine lv_aload_n hx hb dL_law_1039 rfl (lv_at hl 2 rfl) ?_
  refine lv_aload_n hx hb dL_law_1040 rfl (lv_at hl 0 rfl) ?_
  refine lv_iload_n hx hb dL_law_1041 rfl (lv_at hl 3 rfl) ?_
  refine lv_iconst (v := 1) hx hb dL_law_1042 (by decide) ?_
  refine lv_iadd hx hb dL_law_1043 ?_
  refine va_sld hx hb hXs hbl hE hR.2.1 h1 dL_law_1044 ?_
  refine lv_aload_n hx hb dL_law_1045 rfl (lv_at hl 0 rfl) ?_
  refine lv_iload_n hx hb dL_law_1046 rfl (lv_at hl 3 rfl) ?_
  refine lv_iconst (v := 2) hx hb dL_law_1047 (by decide) ?_
  refine lv_iadd hx hb dL_law_1048 ?_
  refine va_sld hx hb hXs hbl hE hR.2.1 h2 dL_law_1049 ?_
  refine lv_aload_n hx hb dL_law_1050 rfl (lv_at hl 0 rfl) ?_
  refine lv_iload_n hx hb dL_law_1051 rfl (lv_at hl 3 rfl) ?_
  refine lv_iconst (v := 3) hx hb dL_law_1052 (by decide) ?_
  refine lv_iadd hx hb dL_law_1053 ?_
  refine va_sld hx hb hXs hbl hE hR.2.1 h3 dL_law_1054 ?_
  refine x_callV (k := 47) (As := [.int (xs (ix (x3 + 1))), .int (xs (ix (x3 + 2))), .int (xs (ix (x3 + 3)))]) (rest := [.int r]) (st1 := [.int r, .int r]) X hR (ctX11_move g2) ml_L_136 im_X11_move se_X11_move in_X11 co_X11_move yo_X11_move rfl kX11 (z_47 b) ⟨Nat.le_of_ble_eq_true rfl, Nat.le_of_ble_eq_true rfl⟩ rfl hl.1 rfl rfl (Nat.le_of_ble_eq_true rfl) dL_law_1055 (by cases b <;> exact ⟨by decide, by decide⟩) (fun H locs hR => ?_)
  refine lv_icmp_eq (tgt := 1132) hx hb dL_law_1058 (by decide) (fun _ => ?_) (fun q => absurd rfl q)
  exact kk _ _ _ _ g3 hR
set_option maxHeartbeats 4000000 in
set_option maxRecDepth 100000 in
theorem lc_29 (hst : st_29 Inv) (X : CX E p s m #[Value.ref b0] c meth code 4 ret RL) (hXs : va_X b0 L xs s s.heap) (hbl : b0 < s.heap.size) (hE : ¬ fr E b0) {t : Nat} {b : Bool} {M : Mem} {H : Heap} {locs : List Loc} {ls : Array Slot} (ht : t < 512) (hI : Inv t b M) (hR : Rl E (sh_ b) (nn b) s.heap M H locs) (hl : lv_has ls 4 [(0, .ref b0), (1, .ref (eB E + 0)), (2, .ref (eB E + 47)), (3, .int x3)])
    (kk : ∀ (b : Bool) (M : Mem) (H : Heap) (locs : List Loc), Inv (t + 1) b M → Rl E (sh_ b) (nn b) s.heap M H locs → W p l e room_1 s m #[Value.ref b0] below meth c H locs (lc b) (lsl b) Q (F0 m 1132 ls [])) : W p l e room_1 s m #[Value.ref b0] below meth c H locs (lc b) (lsl b) Q (F0 m 1063 ls []) := by
  obtain ⟨hx, hb, hr, hml, hown, hts, hK, hN, hO, hlk, hbs⟩ := id X
  obtain ⟨r, M1, M2, g1, g2, g3⟩ := hst t b M  ht hI
  refine lv_aload_n hx hb dL_law_1063 rfl (lv_at hl 1 rfl) ?_
  refine x_callV (k := 0) (As := []) (rest := []) (st1 := [.int r]) X hR (ctX10_undo g1) ml_L_137 im_X10_undo se_X10_undo in_X10 co_X10_undo yo_X10_undo rfl kX10 (z_0 b) ⟨Nat.le_of_ble_eq_true rfl, Nat.le_of_ble_eq_true rfl⟩ rfl hl.1 rfl rfl (Nat.le_of_ble_eq_true rfl) dL_law_1064 (by cases b <;> exact ⟨by decide, by decide⟩) (fun H locs hR => ?_)
  refine lv_aload_n hx hb dL_law_1067 rfl (lv_at hl 2 rfl) ?_
  refine x_callV (k := 47) (As := []) (rest := [.int r]) (st1 := [.int r, .int r]) X hR (ctX11_undo g2) ml_L_140 im_X11_undo se_X11_undo in_X11 co_X11_undo yo_X11_undo rfl kX11 (z_47 b) ⟨Nat.le_of_ble_eq_true rfl, Nat.le_of_ble_eq_true rfl⟩ rfl hl.1 rfl rfl (Nat.le_of_ble_eq_true rfl) dL_law_1068 (by cases b <;> exact ⟨by decide, by decide⟩) (fun H locs hR => ?_)
  refine lv_icmp_eq (tgt := 1132) hx hb dL_law_1071 (by decide) (fun _ => ?_) (fun q => absurd rfl q)
  exact kk _ _ _ _ g3 hR
set_option maxHeartbeats 4000000 in
set_option maxRecDepth 100000 in
theorem lc_30 (hst : st_30 Inv) (X : CX E p s m #[Value.ref b0] c meth code 4 ret RL) (hXs : va_X b0 L xs s s.heap) (hbl : b0 < s.heap.size) (hE : ¬ fr E b0) (h1 : vp_in (x3 + 1) L) (h2 : vp_in (x3 + 2) L) {t : Nat} {b : Bool} {M : Mem} {H : Heap} {locs : List Loc} {ls : Array Slot} (ht : t < 512) (hI : Inv t b M) (hR : Rl E (sh_ b) (nn b) s.heap M H locs) (hl : lv_has ls 4 [(0, .ref b0), (1, .ref (eB E + 0)), (2, .ref (eB E + 47)), (3, .int x3)])
    (kk : ∀ (b : Bool) (M : Mem) (H : Heap) (locs : List Loc), Inv (t + 1) b M → Rl E (sh_ b) (nn b) s.heap M H locs → W p l e room_1 s m #[Value.ref b0] below meth c H locs (lc b) (lsl b) Q (F0 m 1132 ls [])) : W p l e room_1 s m #[Value.ref b0] below meth c H locs (lc b) (lsl b) Q (F0 m 1076 ls []) := by
  obtain ⟨hx, hb, hr, hml, hown, hts, hK, hN, hO, hlk, hbs⟩ := id X
  obtain ⟨r, g1, g2, g3⟩ := hst t b M (xs (ix (x3 + 1))) (xs (ix (x3 + 2))) ht hI
  refine lv_aload_n hx hb dL_law_1076 rfl (lv_at hl 1 rfl) ?_
  refine lv_aload_n hx hb dL_law_1077 rfl (lv_at hl 0 rfl) ?_
  refine lv_iload_n hx hb dL_law_1078 rfl (lv_at hl 3 rfl) ?_
  refine lv_iconst (v := 1) hx hb dL_law_1079 (by decide) ?_
  refine lv_iadd hx hb dL_law_1080 ?_
  refine va_sld hx hb hXs hbl hE hR.2.1 h1 dL_law_1081 ?_
  refine lv_aload_n hx hb dL_law_1082 rfl (lv_at hl 0 rfl) ?_
  refine lv_iload_n hx hb dL_law_1083 rfl (lv_at hl 3 rfl) ?_
  refine lv_iconst (v := 2) hx hb dL_law_1084 (by decide) ?_
  refine lv_iadd hx hb dL_law_1085 ?_
  refine va_sld hx hb hXs hbl hE hR.2.1 h2 dL_law_1086 ?_
  refine x_callV (k := 0) (As := [.int (xs (ix (x3 + 1))), .int (xs (ix (x3 + 2)))]) (rest := []) (st1 := [.int r]) X hR (ctX10_moved g1) ml_L_141 im_X10_moved se_X10_moved in_X10 co_X10_moved yo_X10_moved rfl kX10 (z_0 b) ⟨Nat.le_of_ble_eq_true rfl, Nat.le_of_ble_eq_true rfl⟩ rfl hl.1 rfl rfl (Nat.le_of_ble_eq_true rfl) dL_law_1087 (by cases b <;> exact ⟨by decide, by decide⟩) (fun H locs hR => ?_)
  refine lv_aload_n hx hb dL_law_1090 rfl (lv_at hl 2 rfl) ?_
  refine lv_aload_n hx hb dL_law_1091 rfl (lv_at hl 0 rfl) ?_
  refine lv_iload_n hx hb dL_law_1092 rfl (lv_at hl 3 rfl) ?_
  refine lv_iconst (v := 1) hx hb dL_law_1093 (by decide) ?_
  refine lv_iadd hx hb dL_law_1094 ?_
  refine va_sld hx hb hXs hbl hE hR.2.1 h1 dL_law_1095 ?_
  refine lv_aload_n hx hb dL_law_1096 rfl (lv_at hl 0 rfl) ?_
  refine lv_iload_n hx hb dL_law_1097 rfl (lv_at hl 3 rfl) ?_
  refine lv_iconst (v := 2) hx hb dL_law_1098 (by decide) ?_
  refine lv_iadd hx hb dL_law_1099 ?_
  refine va_sld hx hb hXs hbl hE hR.2.1 h2 dL_law_1100 ?_
  refine x_callV (k := 47) (As := [.int (xs (ix (x3 + 1))), .int (xs (ix (x3 + 2)))]) (rest := [.int r]) (st1 := [.int r, .int r]) X hR (ctX11_moved g2) ml_L_144 im_X11_moved se_X11_moved in_X11 co_X11_moved yo_X11_moved rfl kX11 (z_47 b) ⟨Nat.le_of_ble_eq_true rfl, Nat.le_of_ble_eq_true rfl⟩ rfl hl.1 rfl rfl (Nat.le_of_ble_eq_true rfl) dL_law_1101 (by cases b <;> exact ⟨by decide, by decide⟩) (fun H locs hR => ?_)
  refine lv_icmp_eq (tgt := 1132) hx hb dL_law_1104 (by decide) (fun _ => ?_) (fun q => absurd rfl q)
  exact kk _ _ _ _ g3 hR
set_option maxHeartbeats 4000000 in
set_option maxRecDepth 100000 in
theorem lc_31 (hst : st_31 Inv) (X : CX E p s m #[Value.ref b0] c meth code 4 ret RL) (hXs : va_X b0 L xs s s.heap) (hbl : b0 < s.heap.size) (hE : ¬ fr E b0) (h1 : vp_in (x3 + 1) L) {t : Nat} {b : Bool} {M : Mem} {H : Heap} {locs : List Loc} {ls : Array Slot} (ht : t < 512) (hI : Inv t b M) (hR : Rl E (sh_ b) (nn b) s.heap M H locs) (hl : lv_has ls 4 [(0, .ref b0), (1, .ref (eB E + 0)), (2, .ref (eB E + 47)), (3, .int x3)])
    (kk : ∀ (b : Bool) (M : Mem) (H : Heap) (locs : List Loc), Inv (t + 1) b M → Rl E (sh_ b) (nn b) s.heap M H locs → W p l e room_1 s m #[Value.ref b0] below meth c H locs (lc b) (lsl b) Q (F0 m 1132 ls [])) : W p l e room_1 s m #[Value.ref b0] below meth c H locs (lc b) (lsl b) Q (F0 m 1109 ls []) := by
  obtain ⟨hx, hb, hr, hml, hown, hts, hK, hN, hO, hlk, hbs⟩ := id X
  obtain ⟨r, M1, g1, g2, g3⟩ := hst t b M (xs (ix (x3 + 1))) ht hI
  refine lv_aload_n hx hb dL_law_1109 rfl (lv_at hl 1 rfl) ?_
  refine lv_aload_n hx hb dL_law_1110 rfl (lv_at hl 0 rfl) ?_
  refine lv_iload_n hx hb dL_law_1111 rfl (lv_at hl 3 rfl) ?_
  refine lv_iconst (v := 1) hx hb dL_law_1112 (by decide) ?_
  refine lv_iadd hx hb dL_law_1113 ?_
  refine va_sld hx hb hXs hbl hE hR.2.1 h1 dL_law_1114 ?_
  refine x_callV (k := 0) (As := [.int (xs (ix (x3 + 1)))]) (rest := []) (st1 := [.int r]) X hR (ctX10_count g1) ml_L_145 im_X10_count se_X10_count in_X10 co_X10_count yo_X10_count rfl kX10 (z_0 b) ⟨Nat.le_of_ble_eq_true rfl, Nat.le_of_ble_eq_true rfl⟩ rfl hl.1 rfl rfl (Nat.le_of_ble_eq_true rfl) dL_law_1115 (by cases b <;> exact ⟨by decide, by decide⟩) (fun H locs hR => ?_)
  refine lv_aload_n hx hb dL_law_1118 rfl (lv_at hl 2 rfl) ?_
  refine lv_aload_n hx hb dL_law_1119 rfl (lv_at hl 0 rfl) ?_
  refine lv_iload_n hx hb dL_law_1120 rfl (lv_at hl 3 rfl) ?_
  refine lv_iconst (v := 1) hx hb dL_law_1121 (by decide) ?_
  refine lv_iadd hx hb dL_law_1122 ?_
  refine va_sld hx hb hXs hbl hE hR.2.1 h1 dL_law_1123 ?_
  refine x_callV (k := 47) (As := [.int (xs (ix (x3 + 1)))]) (rest := [.int r]) (st1 := [.int r, .int r]) X hR (ctX11_count g2) ml_L_148 im_X11_count se_X11_count in_X11 co_X11_count yo_X11_count rfl kX11 (z_47 b) ⟨Nat.le_of_ble_eq_true rfl, Nat.le_of_ble_eq_true rfl⟩ rfl hl.1 rfl rfl (Nat.le_of_ble_eq_true rfl) dL_law_1124 (by cases b <;> exact ⟨by decide, by decide⟩) (fun H locs hR => ?_)
  refine lv_icmp_eq (tgt := 1132) hx hb dL_law_1127 (by decide) (fun _ => ?_) (fun q => absurd rfl q)
  exact kk _ _ _ _ g3 hR
end LC
