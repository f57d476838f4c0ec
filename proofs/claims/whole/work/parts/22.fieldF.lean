/-! the Field is made -/
def mk0 (M : Mem) : Mem := (fun a i => if 141 ≤ a then 0 else M.1 a i, fun a i => if 141 ≤ a then 0 else M.2 a i)
def mkF (M : Mem) : Mem := sI (sI (sI (mk0 M) 141 8 (-1)) 141 9 (-1)) 141 10 (-1)
theorem mk0_zf (M : Mem) : zf (mk0 M) 141 := fun k j hk => by simp [mk0, hk]
theorem Rl.re {E : Ge} {sh sh1 : Nat → Sh} {n : Nat} {H0 H : Heap} {M M1 : Mem} {locs : List Loc} (h : Rl E sh n H0 M H locs) (hs : ∀ a, a < n → sh a = sh1 a) (hM : ∀ a, a < n → M1.1 a = M.1 a ∧ M1.2 a = M.2 a) : Rl E sh1 n H0 M1 H locs := by
  refine ⟨fun i x hx => ?_, h.2⟩
  obtain ⟨hi, rfl⟩ := wd_of hx
  rw [← hs i hi, ce_same (hM i hi).1 (hM i hi).2]
  exact h.1 i _ (wd_at (E := E) (M := M) ⟨rfl, hi⟩)
theorem Rl.mk0 {E : Ge} {H0 H : Heap} {M : Mem} {locs : List Loc} (h : Rl E (sh_ false) 141 H0 M H locs) : Rl E (sh_ false) 141 H0 (mk0 M) H locs :=
  h.re (fun _ _ => rfl) (fun a ha => by
    have : ¬ 141 ≤ a := by omega
    constructor <;> (funext i; simp [Jvm.Pilot.CMiddleSheetLaw_law_r6983_4f6f61.mk0, this]))
def fX10_fieldFrom_F (x1 x2 : Int32) (M : Mem) : Option Mem := fX1_lookFrom x1 x2 (mkF M)
set_option maxHeartbeats 8000000 in
set_option maxRecDepth 100000 in
theorem ctX10_fieldFrom_F {l : Launch} {E : Ge} {M M1 : Mem} {x1 x2 : Int32} (h : fX10_fieldFrom_F x1 x2 M = some M1) : CT l E yX10_fieldFrom cX10_fieldFrom 4 (some (.object "MiddleSheet$Field")) 6 6 45012 [.ref (eB E + 0), .int x1, .int x2] (some (.ref (eB E + 141))) (sh_ false) (nn false) M (sh_ true) (nn true) M1 := by
  refine met_of (by decide) (Nat.le_of_ble_eq_true rfl) ?_
  intro p e s m args below meth c X hi hR ls hl
  obtain ⟨hx, hb, hr, hml, hown, hts, hK, hN, hO, hlk, hbs⟩ := id X
  have hR : Rl E (sh_ false) 141 s.heap (mk0 M) s.heap [] := Rl.mk0 hR
  have hz := mk0_zf M
  refine lv_aload_n hx hb dX10_fieldFrom_0 rfl (lv_at hl 0 rfl) ?_
  refine x_get hx hb hown hts hK hR kX10 (k := 0) ⟨rfl, by decide⟩ (j := 6) (by decide) fl_X10_314 (v := .null) rfl dX10_fieldFrom_1 ?_
  refine lv_ifnonnullN hx hb dX10_fieldFrom_4 ?_
  refine x_new hx hb hown hts hK hR hz kX1 cl_X10_209 is_X1 in_X1 (by decide) (Nat.le_of_ble_eq_true rfl) (Nat.le_of_ble_eq_true rfl) dX10_fieldFrom_7 (fun H hR => ?_)
  have hR : Rl E _ 142 s.heap (mk0 M) H _ := hR
  have hz := zf.up (n1 := 142) hz (by decide)
  refine lv_dup hx hb dX10_fieldFrom_10 rfl ?_
  refine lv_aload_n hx hb dX10_fieldFrom_11 rfl (lv_at hl 0 rfl) ?_
  refine x_get hx hb hown hts hK hR kX10 (k := 0) ⟨rfl, by decide⟩ (j := 0) (by decide) fl_X10_12 (v := .ref (eB E + 1)) rfl dX10_fieldFrom_12 ?_
  refine x_callI (As := [.ref (eB E + 1)]) (rest := [.ref (eB E + 141)]) X hR (ctX1_init_141 hz) ml_X10_318 im_X1_init in_X1 co_X1_init yo_X1_init rfl (rm_ok (by decide) (by decide)) rfl hl.1 rfl (Nat.le_of_ble_eq_true rfl) dX10_fieldFrom_15 ⟨Nat.le_of_ble_eq_true rfl, Nat.le_of_ble_eq_true rfl⟩ (fun H locs hR => ?_)
  have hR : Rl E _ 147 s.heap (mkF M) H locs := hR
  refine lv_goto (tgt := 25) hx hb dX10_fieldFrom_18 (by decide) ?_
  refine lv_astore_n (lv' := [(3, .ref (eB E + 141)), (0, .ref (eB E + 0)), (1, .int x1), (2, .int x2)]) hx hb dX10_fieldFrom_25 rfl hl (by decide) rfl (fun ls hl => ?_)
  refine lv_aload_n hx hb dX10_fieldFrom_26 rfl (lv_at hl 1 rfl) ?_
  refine lv_aload_n hx hb dX10_fieldFrom_27 rfl (lv_at hl 0 rfl) ?_
  refine x_putr (r := 141) (rs1 := [some 1, some 10, some 21, some 26, some 30, some 35, some 141, some 36, some 40, some 45]) hx hb hown hts hK hR kX10 (k := 0) ⟨rfl, by decide⟩ (j := 6) (by decide) fl_X10_314 (Or.inl rfl) rfl rfl rfl (by decide) rfl dX10_fieldFrom_28 (fun H locs hR => ?_)
  have hR : Rl E (sh_ true) (nn true) s.heap (mkF M) H locs := Rl.re hR (by decide) (fun _ _ => ⟨rfl, rfl⟩)
  refine lv_aload_n hx hb dX10_fieldFrom_31 rfl (lv_at hl 0 rfl) ?_
  refine lv_iload_n hx hb dX10_fieldFrom_32 rfl (lv_at hl 2 rfl) ?_
  refine lv_iload_n hx hb dX10_fieldFrom_33 rfl (lv_at hl 3 rfl) ?_
  refine x_callV (k := 141) (As := [.int x1, .int x2]) (rest := []) (st1 := []) X hR (ctX1_lookFrom h) ml_X10_319 im_X1_lookFrom se_X1_lookFrom in_X1 co_X1_lookFrom yo_X1_lookFrom rfl kX1 z_141 (rm_ok (by decide) (by decide)) rfl hl.1 rfl rfl (Nat.le_of_ble_eq_true rfl) dX10_fieldFrom_34 ⟨Nat.le_of_ble_eq_true rfl, Nat.le_of_ble_eq_true rfl⟩ (fun H locs hR => ?_)
  refine lv_aload_n hx hb dX10_fieldFrom_37 rfl (lv_at hl 0 rfl) ?_
  exact x_aret hx hb hr hlk hR dX10_fieldFrom_38
