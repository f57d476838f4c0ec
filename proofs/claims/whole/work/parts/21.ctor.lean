theorem ct_end {p : Program} {l : Launch} {e : Env} {R : Room} {s : State} {m : MethodId} {args : Array Value} {below : List Frame} {meth : Method} {c : Code} {H : Heap} {locs : List Loc} {cells slots : Nat} {cc : ByteArray} {pc : Nat} {ls : Array Slot} {E : Ge} {sh : Nat → Sh} {n : Nat} {M M1 : Mem} (hx : p.tables.exec = Jvm.exec) (hb : c.code = cc) (hr : meth.sig.returnType = none) (hlk : meth.locks = false) (hR : Rl E sh n s.heap M H locs) (hM : M = M1) (hdg : decode cc pc = .ok (.return_, 1)) :
    W p l e R s m args below meth c H locs cells slots (MQ below (qq E none sh n M1) args s cells slots (fr E)) (F0 m pc ls []) := by
  subst hM
  exact x_vret hx hb hr hlk hR hdg
set_option maxHeartbeats 8000000 in
set_option maxRecDepth 100000 in
theorem ctX8_init_1 {l : Launch} {E : Ge} {sh : Nat → Sh} {M : Mem} (hz : zf M 2) : CT l E yX8_init cX8_init 1 none 2 8 130 [.ref (eB E + 1)] none (shp sh 1 (0, 8, List.replicate 16 none)) 2 M (shp (shp (shp (shp (shp (shp (shp (shp (shp (shp (shp (shp (shp (shp (shp (shp (shp sh 1 (0, 8, List.replicate 16 none)) 2 (1, 15, [])) 1 (0, 8, [none, some 2, none, none, none, none, none, none, none, none, none, none, none, none, none, none])) 3 (1, 15, [])) 1 (0, 8, [none, some 2, some 3, none, none, none, none, none, none, none, none, none, none, none, none, none])) 4 (1, 15, [])) 1 (0, 8, [none, some 2, some 3, some 4, none, none, none, none, none, none, none, none, none, none, none, none])) 5 (1, 15, [])) 1 (0, 8, [none, some 2, some 3, some 4, some 5, none, none, none, none, none, none, none, none, none, none, none])) 6 (1, 15, [])) 1 (0, 8, [none, some 2, some 3, some 4, some 5, some 6, none, none, none, none, none, none, none, none, none, none])) 7 (1, 15, [])) 1 (0, 8, [none, some 2, some 3, some 4, some 5, some 6, some 7, none, none, none, none, none, none, none, none, none])) 8 (1, 20, [])) 1 (0, 8, [none, some 2, some 3, some 4, some 5, some 6, some 7, none, none, some 8, none, none, none, none, none, none])) 9 (1, 20, [])) 1 (0, 8, [none, some 2, some 3, some 4, some 5, some 6, some 7, none, none, some 8, some 9, none, none, none, none, none])) 10 M := by
  refine met_of (by decide) (Nat.le_of_ble_eq_true rfl) ?_
  intro p e s m args below meth c X hi hR ls hl
  obtain ⟨hx, hb, hr, hml, hown, hts, hK, hN, hO, hlk, hbs⟩ := id X
  have hin := hi rfl
  refine lv_aload_n hx hb dX8_init_0 rfl (lv_at hl 0 rfl) ?_
  refine W.objInit hx hb hown (hts _ ml_X8_3) (hts _ im_obj) (hts _ co_obj) rfl (by rw [hml]; exact hl.1) rfl dX8_init_1 (Nat.le_of_ble_eq_true rfl) (Nat.le_of_ble_eq_true rfl) ?_
  refine W.eq (g2 := F0 m 4 ls []) rfl ?_
  refine lv_aload_n hx hb dX8_init_4 rfl (lv_at hl 0 rfl) ?_
  refine lv_bipush (v := 15) hx hb dX8_init_5 (by decide) ?_
  refine x_newaI (len := 15) hx hb hts hK hR hz (by decide) (by decide) (Nat.le_of_ble_eq_true rfl) (Nat.le_of_ble_eq_true rfl) (Nat.le_of_ble_eq_true rfl) dX8_init_7 (fun H hR => ?_)
  have hR : Rl E _ 3 s.heap M H _ := hR
  have hz := zf.up (n1 := 3) hz (by decide)
  refine x_putr (rs1 := [none, some 2, none, none, none, none, none, none, none, none, none, none, none, none, none, none]) hx hb hown hts hK hR kX8 ⟨rfl, by decide⟩ (j := 1) (by decide) fl_X8_9 (Or.inr ⟨rfl, hin, rfl⟩) rfl rfl rfl (by decide) rfl dX8_init_9 (fun H locs hR => ?_)
  refine lv_aload_n hx hb dX8_init_12 rfl (lv_at hl 0 rfl) ?_
  refine lv_bipush (v := 15) hx hb dX8_init_13 (by decide) ?_
  refine x_newaI (len := 15) hx hb hts hK hR hz (by decide) (by decide) (Nat.le_of_ble_eq_true rfl) (Nat.le_of_ble_eq_true rfl) (Nat.le_of_ble_eq_true rfl) dX8_init_15 (fun H hR => ?_)
  have hR : Rl E _ 4 s.heap M H _ := hR
  have hz := zf.up (n1 := 4) hz (by decide)
  refine x_putr (rs1 := [none, some 2, some 3, none, none, none, none, none, none, none, none, none, none, none, none, none]) hx hb hown hts hK hR kX8 ⟨rfl, by decide⟩ (j := 2) (by decide) fl_X8_15 (Or.inr ⟨rfl, hin, rfl⟩) rfl rfl rfl (by decide) rfl dX8_init_17 (fun H locs hR => ?_)
  refine lv_aload_n hx hb dX8_init_20 rfl (lv_at hl 0 rfl) ?_
  refine lv_bipush (v := 15) hx hb dX8_init_21 (by decide) ?_
  refine x_newaI (len := 15) hx hb hts hK hR hz (by decide) (by decide) (Nat.le_of_ble_eq_true rfl) (Nat.le_of_ble_eq_true rfl) (Nat.le_of_ble_eq_true rfl) dX8_init_23 (fun H hR => ?_)
  have hR : Rl E _ 5 s.heap M H _ := hR
  have hz := zf.up (n1 := 5) hz (by decide)
  refine x_putr (rs1 := [none, some 2, some 3, some 4, none, none, none, none, none, none, none, none, none, none, none, none]) hx hb hown hts hK hR kX8 ⟨rfl, by decide⟩ (j := 3) (by decide) fl_X8_18 (Or.inr ⟨rfl, hin, rfl⟩) rfl rfl rfl (by decide) rfl dX8_init_25 (fun H locs hR => ?_)
  refine lv_aload_n hx hb dX8_init_28 rfl (lv_at hl 0 rfl) ?_
  refine lv_bipush (v := 15) hx hb dX8_init_29 (by decide) ?_
  refine x_newaI (len := 15) hx hb hts hK hR hz (by decide) (by decide) (Nat.le_of_ble_eq_true rfl) (Nat.le_of_ble_eq_true rfl) (Nat.le_of_ble_eq_true rfl) dX8_init_31 (fun H hR => ?_)
  have hR : Rl E _ 6 s.heap M H _ := hR
  have hz := zf.up (n1 := 6) hz (by decide)
  refine x_putr (rs1 := [none, some 2, some 3, some 4, some 5, none, none, none, none, none, none, none, none, none, none, none]) hx hb hown hts hK hR kX8 ⟨rfl, by decide⟩ (j := 4) (by decide) fl_X8_21 (Or.inr ⟨rfl, hin, rfl⟩) rfl rfl rfl (by decide) rfl dX8_init_33 (fun H locs hR => ?_)
  refine lv_aload_n hx hb dX8_init_36 rfl (lv_at hl 0 rfl) ?_
  refine lv_bipush (v := 15) hx hb dX8_init_37 (by decide) ?_
  refine x_newaI (len := 15) hx hb hts hK hR hz (by decide) (by decide) (Nat.le_of_ble_eq_true rfl) (Nat.le_of_ble_eq_true rfl) (Nat.le_of_ble_eq_true rfl) dX8_init_39 (fun H hR => ?_)
  have hR : Rl E _ 7 s.heap M H _ := hR
  have hz := zf.up (n1 := 7) hz (by decide)
  refine x_putr (rs1 := [none, some 2, some 3, some 4, some 5, some 6, none, none, none, none, none, none, none, none, none, none]) hx hb hown hts hK hR kX8 ⟨rfl, by decide⟩ (j := 5) (by decide) fl_X8_24 (Or.inr ⟨rfl, hin, rfl⟩) rfl rfl rfl (by decide) rfl dX8_init_41 (fun H locs hR => ?_)
  refine lv_aload_n hx hb dX8_init_44 rfl (lv_at hl 0 rfl) ?_
  refine lv_bipush (v := 15) hx hb dX8_init_45 (by decide) ?_
  refine x_newaI (len := 15) hx hb hts hK hR hz (by decide) (by decide) (Nat.le_of_ble_eq_true rfl) (Nat.le_of_ble_eq_true rfl) (Nat.le_of_ble_eq_true rfl) dX8_init_47 (fun H hR => ?_)
  have hR : Rl E _ 8 s.heap M H _ := hR
  have hz := zf.up (n1 := 8) hz (by decide)
  refine x_putr (rs1 := [none, some 2, some 3, some 4, some 5, some 6, some 7, none, none, none, none, none, none, none, none, none]) hx hb hown hts hK hR kX8 ⟨rfl, by decide⟩ (j := 6) (by decide) fl_X8_27 (Or.inr ⟨rfl, hin, rfl⟩) rfl rfl rfl (by decide) rfl dX8_init_49 (fun H locs hR => ?_)
  refine lv_aload_n hx hb dX8_init_52 rfl (lv_at hl 0 rfl) ?_
  refine lv_bipush (v := 20) hx hb dX8_init_53 (by decide) ?_
  refine x_newaI (len := 20) hx hb hts hK hR hz (by decide) (by decide) (Nat.le_of_ble_eq_true rfl) (Nat.le_of_ble_eq_true rfl) (Nat.le_of_ble_eq_true rfl) dX8_init_55 (fun H hR => ?_)
  have hR : Rl E _ 9 s.heap M H _ := hR
  have hz := zf.up (n1 := 9) hz (by decide)
  refine x_putr (rs1 := [none, some 2, some 3, some 4, some 5, some 6, some 7, none, none, some 8, none, none, none, none, none, none]) hx hb hown hts hK hR kX8 ⟨rfl, by decide⟩ (j := 9) (by decide) fl_X8_30 (Or.inr ⟨rfl, hin, rfl⟩) rfl rfl rfl (by decide) rfl dX8_init_57 (fun H locs hR => ?_)
  refine lv_aload_n hx hb dX8_init_60 rfl (lv_at hl 0 rfl) ?_
  refine lv_bipush (v := 20) hx hb dX8_init_61 (by decide) ?_
  refine x_newaI (len := 20) hx hb hts hK hR hz (by decide) (by decide) (Nat.le_of_ble_eq_true rfl) (Nat.le_of_ble_eq_true rfl) (Nat.le_of_ble_eq_true rfl) dX8_init_63 (fun H hR => ?_)
  have hR : Rl E _ 10 s.heap M H _ := hR
  have hz := zf.up (n1 := 10) hz (by decide)
  refine x_putr (rs1 := [none, some 2, some 3, some 4, some 5, some 6, some 7, none, none, some 8, some 9, none, none, none, none, none]) hx hb hown hts hK hR kX8 ⟨rfl, by decide⟩ (j := 10) (by decide) fl_X8_33 (Or.inr ⟨rfl, hin, rfl⟩) rfl rfl rfl (by decide) rfl dX8_init_65 (fun H locs hR => ?_)
  exact ct_end hx hb hr hlk hR rfl dX8_init_68
set_option maxHeartbeats 8000000 in
set_option maxRecDepth 100000 in
theorem ctX8_init_12 {l : Launch} {E : Ge} {sh : Nat → Sh} {M : Mem} (hz : zf M 13) : CT l E yX8_init cX8_init 1 none 2 8 130 [.ref (eB E + 12)] none (shp sh 12 (0, 8, List.replicate 16 none)) 13 M (shp (shp (shp (shp (shp (shp (shp (shp (shp (shp (shp (shp (shp (shp (shp (shp (shp sh 12 (0, 8, List.replicate 16 none)) 13 (1, 15, [])) 12 (0, 8, [none, some 13, none, none, none, none, none, none, none, none, none, none, none, none, none, none])) 14 (1, 15, [])) 12 (0, 8, [none, some 13, some 14, none, none, none, none, none, none, none, none, none, none, none, none, none])) 15 (1, 15, [])) 12 (0, 8, [none, some 13, some 14, some 15, none, none, none, none, none, none, none, none, none, none, none, none])) 16 (1, 15, [])) 12 (0, 8, [none, some 13, some 14, some 15, some 16, none, none, none, none, none, none, none, none, none, none, none])) 17 (1, 15, [])) 12 (0, 8, [none, some 13, some 14, some 15, some 16, some 17, none, none, none, none, none, none, none, none, none, none])) 18 (1, 15, [])) 12 (0, 8, [none, some 13, some 14, some 15, some 16, some 17, some 18, none, none, none, none, none, none, none, none, none])) 19 (1, 20, [])) 12 (0, 8, [none, some 13, some 14, some 15, some 16, some 17, some 18, none, none, some 19, none, none, none, none, none, none])) 20 (1, 20, [])) 12 (0, 8, [none, some 13, some 14, some 15, some 16, some 17, some 18, none, none, some 19, some 20, none, none, none, none, none])) 21 M := by
  refine met_of (by decide) (Nat.le_of_ble_eq_true rfl) ?_
  intro p e s m args below meth c X hi hR ls hl
  obtain ⟨hx, hb, hr, hml, hown, hts, hK, hN, hO, hlk, hbs⟩ := id X
  have hin := hi rfl
  refine lv_aload_n hx hb dX8_init_0 rfl (lv_at hl 0 rfl) ?_
  refine W.objInit hx hb hown (hts _ ml_X8_3) (hts _ im_obj) (hts _ co_obj) rfl (by rw [hml]; exact hl.1) rfl dX8_init_1 (Nat.le_of_ble_eq_true rfl) (Nat.le_of_ble_eq_true rfl) ?_
  refine W.eq (g2 := F0 m 4 ls []) rfl ?_
  refine lv_aload_n hx hb dX8_init_4 rfl (lv_at hl 0 rfl) ?_
  refine lv_bipush (v := 15) hx hb dX8_init_5 (by decide) ?_
  refine x_newaI (len := 15) hx hb hts hK hR hz (by decide) (by decide) (Nat.le_of_ble_eq_true rfl) (Nat.le_of_ble_eq_true rfl) (Nat.le_of_ble_eq_true rfl) dX8_init_7 (fun H hR => ?_)
  have hR : Rl E _ 14 s.heap M H _ := hR
  have hz := zf.up (n1 := 14) hz (by decide)
  refine x_putr (rs1 := [none, some 13, none, none, none, none, none, none, none, none, none, none, none, none, none, none]) hx hb hown hts hK hR kX8 ⟨rfl, by decide⟩ (j := 1) (by decide) fl_X8_9 (Or.inr ⟨rfl, hin, rfl⟩) rfl rfl rfl (by decide) rfl dX8_init_9 (fun H locs hR => ?_)
  refine lv_aload_n hx hb dX8_init_12 rfl (lv_at hl 0 rfl) ?_
  refine lv_bipush (v := 15) hx hb dX8_init_13 (by decide) ?_
  refine x_newaI (len := 15) hx hb hts hK hR hz (by decide) (by decide) (Nat.le_of_ble_eq_true rfl) (Nat.le_of_ble_eq_true rfl) (Nat.le_of_ble_eq_true rfl) dX8_init_15 (fun H hR => ?_)
  have hR : Rl E _ 15 s.heap M H _ := hR
  have hz := zf.up (n1 := 15) hz (by decide)
  refine x_putr (rs1 := [none, some 13, some 14, none, none, none, none, none, none, none, none, none, none, none, none, none]) hx hb hown hts hK hR kX8 ⟨rfl, by decide⟩ (j := 2) (by decide) fl_X8_15 (Or.inr ⟨rfl, hin, rfl⟩) rfl rfl rfl (by decide) rfl dX8_init_17 (fun H locs hR => ?_)
  refine lv_aload_n hx hb dX8_init_20 rfl (lv_at hl 0 rfl) ?_
  refine lv_bipush (v := 15) hx hb dX8_init_21 (by decide) ?_
  refine x_newaI (len := 15) hx hb hts hK hR hz (by decide) (by decide) (Nat.le_of_ble_eq_true rfl) (Nat.le_of_ble_eq_true rfl) (Nat.le_of_ble_eq_true rfl) dX8_init_23 (fun H hR => ?_)
  have hR : Rl E _ 16 s.heap M H _ := hR
  have hz := zf.up (n1 := 16) hz (by decide)
  refine x_putr (rs1 := [none, some 13, some 14, some 15, none, none, none, none, none, none, none, none, none, none, none, none]) hx hb hown hts hK hR kX8 ⟨rfl, by decide⟩ (j := 3) (by decide) fl_X8_18 (Or.inr ⟨rfl, hin, rfl⟩) rfl rfl rfl (by decide) rfl dX8_init_25 (fun H locs hR => ?_)
  refine lv_aload_n hx hb dX8_init_28 rfl (lv_at hl 0 rfl) ?_
  refine lv_bipush (v := 15) hx hb dX8_init_29 (by decide) ?_
  refine x_newaI (len := 15) hx hb hts hK hR hz (by decide) (by decide) (Nat.le_of_ble_eq_true rfl) (Nat.le_of_ble_eq_true rfl) (Nat.le_of_ble_eq_true rfl) dX8_init_31 (fun H hR => ?_)
  have hR : Rl E _ 17 s.heap M H _ := hR
  have hz := zf.up (n1 := 17) hz (by decide)
  refine x_putr (rs1 := [none, some 13, some 14, some 15, some 16, none, none, none, none, none, none, none, none, none, none, none]) hx hb hown hts hK hR kX8 ⟨rfl, by decide⟩ (j := 4) (by decide) fl_X8_21 (Or.inr ⟨rfl, hin, rfl⟩) rfl rfl rfl (by decide) rfl dX8_init_33 (fun H locs hR => ?_)
  refine lv_aload_n hx hb dX8_init_36 rfl (lv_at hl 0 rfl) ?_
  refine lv_bipush (v := 15) hx hb dX8_init_37 (by decide) ?_
  refine x_newaI (len := 15) hx hb hts hK hR hz (by decide) (by decide) (Nat.le_of_ble_eq_true rfl) (Nat.le_of_ble_eq_true rfl) (Nat.le_of_ble_eq_true rfl) dX8_init_39 (fun H hR => ?_)
  have hR : Rl E _ 18 s.heap M H _ := hR
  have hz := zf.up (n1 := 18) hz (by decide)
  refine x_putr (rs1 := [none, some 13, some 14, some 15, some 16, some 17, none, none, none, none, none, none, none, none, none, none]) hx hb hown hts hK hR kX8 ⟨rfl, by decide⟩ (j := 5) (by decide) fl_X8_24 (Or.inr ⟨rfl, hin, rfl⟩) rfl rfl rfl (by decide) rfl dX8_init_41 (fun H locs hR => ?_)
  refine lv_aload_n hx hb dX8_init_44 rfl (lv_at hl 0 rfl) ?_
  refine lv_bipush (v := 15) hx hb dX8_init_45 (by decide) ?_
  refine x_newaI (len := 15) hx hb hts hK hR hz (by decide) (by decide) (Nat.le_of_ble_eq_true rfl) (Nat.le_of_ble_eq_true rfl) (Nat.le_of_ble_eq_true rfl) dX8_init_47 (fun H hR => ?_)
  have hR : Rl E _ 19 s.heap M H _ := hR
  have hz := zf.up (n1 := 19) hz (by decide)
  refine x_putr (rs1 := [none, some 13, some 14, some 15, some 16, some 17, some 18, none, none, none, none, none, none, none, none, none]) hx hb hown hts hK hR kX8 ⟨rfl, by decide⟩ (j := 6) (by decide) fl_X8_27 (Or.inr ⟨rfl, hin, rfl⟩) rfl rfl rfl (by decide) rfl dX8_init_49 (fun H locs hR => ?_)
  refine lv_aload_n hx hb dX8_init_52 rfl (lv_at hl 0 rfl) ?_
  refine lv_bipush (v := 20) hx hb dX8_init_53 (by decide) ?_
  refine x_newaI (len := 20) hx hb hts hK hR hz (by decide) (by decide) (Nat.le_of_ble_eq_true rfl) (Nat.le_of_ble_eq_true rfl) (Nat.le_of_ble_eq_true rfl) dX8_init_55 (fun H hR => ?_)
  have hR : Rl E _ 20 s.heap M H _ := hR
  have hz := zf.up (n1 := 20) hz (by decide)
  refine x_putr (rs1 := [none, some 13, some 14, some 15, some 16, some 17, some 18, none, none, some 19, none, none, none, none, none, none]) hx hb hown hts hK hR kX8 ⟨rfl, by decide⟩ (j := 9) (by decide) fl_X8_30 (Or.inr ⟨rfl, hin, rfl⟩) rfl rfl rfl (by decide) rfl dX8_init_57 (fun H locs hR => ?_)
  refine lv_aload_n hx hb dX8_init_60 rfl (lv_at hl 0 rfl) ?_
  refine lv_bipush (v := 20) hx hb dX8_init_61 (by decide) ?_
  refine x_newaI (len := 20) hx hb hts hK hR hz (by decide) (by decide) (Nat.le_of_ble_eq_true rfl) (Nat.le_of_ble_eq_true rfl) (Nat.le_of_ble_eq_true rfl) dX8_init_63 (fun H hR => ?_)
  have hR : Rl E _ 21 s.heap M H _ := hR
  have hz := zf.up (n1 := 21) hz (by decide)
  refine x_putr (rs1 := [none, some 13, some 14, some 15, some 16, some 17, some 18, none, none, some 19, some 20, none, none, none, none, none]) hx hb hown hts hK hR kX8 ⟨rfl, by decide⟩ (j := 10) (by decide) fl_X8_33 (Or.inr ⟨rfl, hin, rfl⟩) rfl rfl rfl (by decide) rfl dX8_init_65 (fun H locs hR => ?_)
  exact ct_end hx hb hr hlk hR rfl dX8_init_68
set_option maxHeartbeats 8000000 in
set_option maxRecDepth 100000 in
theorem ctX6_init_10 {l : Launch} {E : Ge} {sh : Nat → Sh} {M : Mem} (hz : zf M 11) : CT l E yX6_init cX6_init 1 none 3 10 746 [.ref (eB E + 10)] none (shp sh 10 (0, 6, List.replicate 11 none)) 11 M (shp (shp (shp (shp (shp (shp (shp (shp (shp (shp (shp (shp (shp (shp (shp (shp (shp (shp (shp (shp (shp sh 10 (0, 6, List.replicate 11 none)) 11 (3, 600, [])) 10 (0, 6, [some 11, none, none, none, none, none, none, none, none, none, none])) 12 (0, 8, List.replicate 16 none)) 13 (1, 15, [])) 12 (0, 8, [none, some 13, none, none, none, none, none, none, none, none, none, none, none, none, none, none])) 14 (1, 15, [])) 12 (0, 8, [none, some 13, some 14, none, none, none, none, none, none, none, none, none, none, none, none, none])) 15 (1, 15, [])) 12 (0, 8, [none, some 13, some 14, some 15, none, none, none, none, none, none, none, none, none, none, none, none])) 16 (1, 15, [])) 12 (0, 8, [none, some 13, some 14, some 15, some 16, none, none, none, none, none, none, none, none, none, none, none])) 17 (1, 15, [])) 12 (0, 8, [none, some 13, some 14, some 15, some 16, some 17, none, none, none, none, none, none, none, none, none, none])) 18 (1, 15, [])) 12 (0, 8, [none, some 13, some 14, some 15, some 16, some 17, some 18, none, none, none, none, none, none, none, none, none])) 19 (1, 20, [])) 12 (0, 8, [none, some 13, some 14, some 15, some 16, some 17, some 18, none, none, some 19, none, none, none, none, none, none])) 20 (1, 20, [])) 12 (0, 8, [none, some 13, some 14, some 15, some 16, some 17, some 18, none, none, some 19, some 20, none, none, none, none, none])) 10 (0, 6, [some 11, none, some 12, none, none, none, none, none, none, none, none])) 21 M := by
  refine met_of (by decide) (Nat.le_of_ble_eq_true rfl) ?_
  intro p e s m args below meth c X hi hR ls hl
  obtain ⟨hx, hb, hr, hml, hown, hts, hK, hN, hO, hlk, hbs⟩ := id X
  have hin := hi rfl
  refine lv_aload_n hx hb dX6_init_0 rfl (lv_at hl 0 rfl) ?_
  refine W.objInit hx hb hown (hts _ ml_X6_3) (hts _ im_obj) (hts _ co_obj) rfl (by rw [hml]; exact hl.1) rfl dX6_init_1 (Nat.le_of_ble_eq_true rfl) (Nat.le_of_ble_eq_true rfl) ?_
  refine W.eq (g2 := F0 m 4 ls []) rfl ?_
  refine lv_aload_n hx hb dX6_init_4 rfl (lv_at hl 0 rfl) ?_
  refine lv_sipush (v := 600) hx hb dX6_init_5 (by decide) ?_
  refine x_newaB (len := 600) hx hb hts hK hR hz (by decide) (by decide) (Nat.le_of_ble_eq_true rfl) (Nat.le_of_ble_eq_true rfl) (Nat.le_of_ble_eq_true rfl) dX6_init_8 (fun H hR => ?_)
  have hR : Rl E _ 12 s.heap M H _ := hR
  have hz := zf.up (n1 := 12) hz (by decide)
  refine x_putr (rs1 := [some 11, none, none, none, none, none, none, none, none, none, none]) hx hb hown hts hK hR kX6 ⟨rfl, by decide⟩ (j := 0) (by decide) fl_X6_9 (Or.inr ⟨rfl, hin, rfl⟩) rfl rfl rfl (by decide) rfl dX6_init_10 (fun H locs hR => ?_)
  refine lv_aload_n hx hb dX6_init_13 rfl (lv_at hl 0 rfl) ?_
  refine x_new hx hb hown hts hK hR hz kX8 cl_X6_15 is_X8 in_X8 (by decide) (Nat.le_of_ble_eq_true rfl) (Nat.le_of_ble_eq_true rfl) dX6_init_14 (fun H hR => ?_)
  have hR : Rl E _ 13 s.heap M H _ := hR
  have hz := zf.up (n1 := 13) hz (by decide)
  refine lv_dup hx hb dX6_init_17 rfl ?_
  refine x_callIN (As := []) (rest := [.ref (eB E + 12), .ref (eB E + 10)]) X hR (ctX8_init_12 hz) (List.mem_of_getElem? (i := 6) rfl) im_X8_init in_X8 co_X8_init yo_X8_init rfl (rm_ok (by decide) (by decide)) rfl hl.1 rfl (Nat.le_of_ble_eq_true rfl) dX6_init_18 ⟨Nat.le_of_ble_eq_true rfl, Nat.le_of_ble_eq_true rfl⟩ (fun H locs hR => ?_)
  have hR : Rl E _ 21 s.heap M H _ := hR
  have hz := zf.up (n1 := 21) hz (by decide)
  refine x_putr (rs1 := [some 11, none, some 12, none, none, none, none, none, none, none, none]) hx hb hown hts hK hR kX6 ⟨rfl, by decide⟩ (j := 2) (by decide) fl_X6_18 (Or.inr ⟨rfl, hin, rfl⟩) rfl rfl rfl (by decide) rfl dX6_init_21 (fun H locs hR => ?_)
  exact ct_end hx hb hr hlk hR rfl dX6_init_24
set_option maxHeartbeats 8000000 in
set_option maxRecDepth 100000 in
theorem ctX0_init_21 {l : Launch} {E : Ge} {sh : Nat → Sh} {M : Mem} (hz : zf M 22) : CT l E yX0_init cX0_init 2 none 2 4 460 [.ref (eB E + 21), .ref (eB E + 1)] none (shp sh 21 (0, 0, List.replicate 9 none)) 22 M (shp (shp (shp (shp (shp (shp (shp (shp (shp (shp sh 21 (0, 0, List.replicate 9 none)) 22 (1, 400, [])) 21 (0, 0, [none, some 22, none, none, none, none, none, none, none])) 23 (1, 20, [])) 21 (0, 0, [none, some 22, some 23, none, none, none, none, none, none])) 24 (1, 20, [])) 21 (0, 0, [none, some 22, some 23, some 24, none, none, none, none, none])) 25 (1, 20, [])) 21 (0, 0, [none, some 22, some 23, some 24, some 25, none, none, none, none])) 21 (0, 0, [some 1, some 22, some 23, some 24, some 25, none, none, none, none])) 26 (sI (sI (sI M 21 6 (-1 : Int32)) 21 7 (-1 : Int32)) 21 8 (-1 : Int32)) := by
  refine met_of (by decide) (Nat.le_of_ble_eq_true rfl) ?_
  intro p e s m args below meth c X hi hR ls hl
  obtain ⟨hx, hb, hr, hml, hown, hts, hK, hN, hO, hlk, hbs⟩ := id X
  have hin := hi rfl
  refine lv_aload_n hx hb dX0_init_0 rfl (lv_at hl 0 rfl) ?_
  refine W.objInit hx hb hown (hts _ ml_X0_3) (hts _ im_obj) (hts _ co_obj) rfl (by rw [hml]; exact hl.1) rfl dX0_init_1 (Nat.le_of_ble_eq_true rfl) (Nat.le_of_ble_eq_true rfl) ?_
  refine W.eq (g2 := F0 m 4 ls []) rfl ?_
  refine lv_aload_n hx hb dX0_init_4 rfl (lv_at hl 0 rfl) ?_
  refine lv_sipush (v := 400) hx hb dX0_init_5 (by decide) ?_
  refine x_newaI (len := 400) hx hb hts hK hR hz (by decide) (by decide) (Nat.le_of_ble_eq_true rfl) (Nat.le_of_ble_eq_true rfl) (Nat.le_of_ble_eq_true rfl) dX0_init_8 (fun H hR => ?_)
  have hR : Rl E _ 23 s.heap M H _ := hR
  have hz := zf.up (n1 := 23) hz (by decide)
  refine x_putr (rs1 := [none, some 22, none, none, none, none, none, none, none]) hx hb hown hts hK hR kX0 ⟨rfl, by decide⟩ (j := 1) (by decide) fl_X0_9 (Or.inr ⟨rfl, hin, rfl⟩) rfl rfl rfl (by decide) rfl dX0_init_10 (fun H locs hR => ?_)
  refine lv_aload_n hx hb dX0_init_13 rfl (lv_at hl 0 rfl) ?_
  refine lv_bipush (v := 20) hx hb dX0_init_14 (by decide) ?_
  refine x_newaI (len := 20) hx hb hts hK hR hz (by decide) (by decide) (Nat.le_of_ble_eq_true rfl) (Nat.le_of_ble_eq_true rfl) (Nat.le_of_ble_eq_true rfl) dX0_init_16 (fun H hR => ?_)
  have hR : Rl E _ 24 s.heap M H _ := hR
  have hz := zf.up (n1 := 24) hz (by decide)
  refine x_putr (rs1 := [none, some 22, some 23, none, none, none, none, none, none]) hx hb hown hts hK hR kX0 ⟨rfl, by decide⟩ (j := 2) (by decide) fl_X0_15 (Or.inr ⟨rfl, hin, rfl⟩) rfl rfl rfl (by decide) rfl dX0_init_18 (fun H locs hR => ?_)
  refine lv_aload_n hx hb dX0_init_21 rfl (lv_at hl 0 rfl) ?_
  refine lv_bipush (v := 20) hx hb dX0_init_22 (by decide) ?_
  refine x_newaI (len := 20) hx hb hts hK hR hz (by decide) (by decide) (Nat.le_of_ble_eq_true rfl) (Nat.le_of_ble_eq_true rfl) (Nat.le_of_ble_eq_true rfl) dX0_init_24 (fun H hR => ?_)
  have hR : Rl E _ 25 s.heap M H _ := hR
  have hz := zf.up (n1 := 25) hz (by decide)
  refine x_putr (rs1 := [none, some 22, some 23, some 24, none, none, none, none, none]) hx hb hown hts hK hR kX0 ⟨rfl, by decide⟩ (j := 3) (by decide) fl_X0_18 (Or.inr ⟨rfl, hin, rfl⟩) rfl rfl rfl (by decide) rfl dX0_init_26 (fun H locs hR => ?_)
  refine lv_aload_n hx hb dX0_init_29 rfl (lv_at hl 0 rfl) ?_
  refine lv_bipush (v := 20) hx hb dX0_init_30 (by decide) ?_
  refine x_newaI (len := 20) hx hb hts hK hR hz (by decide) (by decide) (Nat.le_of_ble_eq_true rfl) (Nat.le_of_ble_eq_true rfl) (Nat.le_of_ble_eq_true rfl) dX0_init_32 (fun H hR => ?_)
  have hR : Rl E _ 26 s.heap M H _ := hR
  have hz := zf.up (n1 := 26) hz (by decide)
  refine x_putr (rs1 := [none, some 22, some 23, some 24, some 25, none, none, none, none]) hx hb hown hts hK hR kX0 ⟨rfl, by decide⟩ (j := 4) (by decide) fl_X0_21 (Or.inr ⟨rfl, hin, rfl⟩) rfl rfl rfl (by decide) rfl dX0_init_34 (fun H locs hR => ?_)
  refine lv_aload_n hx hb dX0_init_37 rfl (lv_at hl 0 rfl) ?_
  refine lv_iconst (v := -1) hx hb dX0_init_38 (by decide) ?_
  refine x_puti hx hb hown hts hK hR kX0 ⟨rfl, by decide⟩ (j := 6) (by decide) fl_X0_24 rfl rfl rfl rfl dX0_init_39 (fun H locs hR => ?_)
  obtain ⟨M39, e39⟩ : ∃ y : Mem, y = (sI M 21 6 (-1 : Int32)) := ⟨_, rfl⟩
  rw [← e39] at hR
  have hz : zf M39 26 := by rw [e39]; exact zf_sI hz (by decide)
  refine lv_aload_n hx hb dX0_init_42 rfl (lv_at hl 0 rfl) ?_
  refine lv_iconst (v := -1) hx hb dX0_init_43 (by decide) ?_
  refine x_puti hx hb hown hts hK hR kX0 ⟨rfl, by decide⟩ (j := 7) (by decide) fl_X0_28 rfl rfl rfl rfl dX0_init_44 (fun H locs hR => ?_)
  obtain ⟨M44, e44⟩ : ∃ y : Mem, y = (sI M39 21 7 (-1 : Int32)) := ⟨_, rfl⟩
  rw [← e44] at hR
  have hz : zf M44 26 := by rw [e44]; exact zf_sI hz (by decide)
  refine lv_aload_n hx hb dX0_init_47 rfl (lv_at hl 0 rfl) ?_
  refine lv_iconst (v := -1) hx hb dX0_init_48 (by decide) ?_
  refine x_puti hx hb hown hts hK hR kX0 ⟨rfl, by decide⟩ (j := 8) (by decide) fl_X0_31 rfl rfl rfl rfl dX0_init_49 (fun H locs hR => ?_)
  obtain ⟨M49, e49⟩ : ∃ y : Mem, y = (sI M44 21 8 (-1 : Int32)) := ⟨_, rfl⟩
  rw [← e49] at hR
  have hz : zf M49 26 := by rw [e49]; exact zf_sI hz (by decide)
  refine lv_aload_n hx hb dX0_init_52 rfl (lv_at hl 0 rfl) ?_
  refine lv_aload_n hx hb dX0_init_53 rfl (lv_at hl 1 rfl) ?_
  refine x_putr (rs1 := [some 1, some 22, some 23, some 24, some 25, none, none, none, none]) hx hb hown hts hK hR kX0 ⟨rfl, by decide⟩ (j := 0) (by decide) fl_X0_34 (Or.inr ⟨rfl, hin, rfl⟩) rfl rfl rfl (by decide) rfl dX0_init_54 (fun H locs hR => ?_)
  exact ct_end hx hb hr hlk hR (by rw [e49, e44, e39]) dX0_init_57
theorem zzX0_init_21 {M : Mem} (h : zf M 26) : zf (sI (sI (sI M 21 6 (-1 : Int32)) 21 7 (-1 : Int32)) 21 8 (-1 : Int32)) 26 := (zf_sI (zf_sI (zf_sI h (by decide)) (by decide)) (by decide))
set_option maxHeartbeats 8000000 in
set_option maxRecDepth 100000 in
theorem ctX2_init_26 {l : Launch} {E : Ge} {sh : Nat → Sh} {M : Mem} (hz : zf M 27) : CT l E yX2_init cX2_init 2 none 2 3 315 [.ref (eB E + 26), .ref (eB E + 1)] none (shp sh 26 (0, 2, List.replicate 6 none)) 27 M (shp (shp (shp (shp (shp (shp (shp (shp sh 26 (0, 2, List.replicate 6 none)) 27 (1, 105, [])) 26 (0, 2, [none, some 27, none, none, none, none])) 28 (1, 105, [])) 26 (0, 2, [none, some 27, some 28, none, none, none])) 29 (1, 105, [])) 26 (0, 2, [none, some 27, some 28, some 29, none, none])) 26 (0, 2, [some 1, some 27, some 28, some 29, none, none])) 30 (sI M 26 5 (-1 : Int32)) := by
  refine met_of (by decide) (Nat.le_of_ble_eq_true rfl) ?_
  intro p e s m args below meth c X hi hR ls hl
  obtain ⟨hx, hb, hr, hml, hown, hts, hK, hN, hO, hlk, hbs⟩ := id X
  have hin := hi rfl
  refine lv_aload_n hx hb dX2_init_0 rfl (lv_at hl 0 rfl) ?_
  refine W.objInit hx hb hown (hts _ ml_X2_3) (hts _ im_obj) (hts _ co_obj) rfl (by rw [hml]; exact hl.1) rfl dX2_init_1 (Nat.le_of_ble_eq_true rfl) (Nat.le_of_ble_eq_true rfl) ?_
  refine W.eq (g2 := F0 m 4 ls []) rfl ?_
  refine lv_aload_n hx hb dX2_init_4 rfl (lv_at hl 0 rfl) ?_
  refine lv_bipush (v := 105) hx hb dX2_init_5 (by decide) ?_
  refine x_newaI (len := 105) hx hb hts hK hR hz (by decide) (by decide) (Nat.le_of_ble_eq_true rfl) (Nat.le_of_ble_eq_true rfl) (Nat.le_of_ble_eq_true rfl) dX2_init_7 (fun H hR => ?_)
  have hR : Rl E _ 28 s.heap M H _ := hR
  have hz := zf.up (n1 := 28) hz (by decide)
  refine x_putr (rs1 := [none, some 27, none, none, none, none]) hx hb hown hts hK hR kX2 ⟨rfl, by decide⟩ (j := 1) (by decide) fl_X2_11 (Or.inr ⟨rfl, hin, rfl⟩) rfl rfl rfl (by decide) rfl dX2_init_9 (fun H locs hR => ?_)
  refine lv_aload_n hx hb dX2_init_12 rfl (lv_at hl 0 rfl) ?_
  refine lv_bipush (v := 105) hx hb dX2_init_13 (by decide) ?_
  refine x_newaI (len := 105) hx hb hts hK hR hz (by decide) (by decide) (Nat.le_of_ble_eq_true rfl) (Nat.le_of_ble_eq_true rfl) (Nat.le_of_ble_eq_true rfl) dX2_init_15 (fun H hR => ?_)
  have hR : Rl E _ 29 s.heap M H _ := hR
  have hz := zf.up (n1 := 29) hz (by decide)
  refine x_putr (rs1 := [none, some 27, some 28, none, none, none]) hx hb hown hts hK hR kX2 ⟨rfl, by decide⟩ (j := 2) (by decide) fl_X2_15 (Or.inr ⟨rfl, hin, rfl⟩) rfl rfl rfl (by decide) rfl dX2_init_17 (fun H locs hR => ?_)
  refine lv_aload_n hx hb dX2_init_20 rfl (lv_at hl 0 rfl) ?_
  refine lv_bipush (v := 105) hx hb dX2_init_21 (by decide) ?_
  refine x_newaI (len := 105) hx hb hts hK hR hz (by decide) (by decide) (Nat.le_of_ble_eq_true rfl) (Nat.le_of_ble_eq_true rfl) (Nat.le_of_ble_eq_true rfl) dX2_init_23 (fun H hR => ?_)
  have hR : Rl E _ 30 s.heap M H _ := hR
  have hz := zf.up (n1 := 30) hz (by decide)
  refine x_putr (rs1 := [none, some 27, some 28, some 29, none, none]) hx hb hown hts hK hR kX2 ⟨rfl, by decide⟩ (j := 3) (by decide) fl_X2_18 (Or.inr ⟨rfl, hin, rfl⟩) rfl rfl rfl (by decide) rfl dX2_init_25 (fun H locs hR => ?_)
  refine lv_aload_n hx hb dX2_init_28 rfl (lv_at hl 0 rfl) ?_
  refine lv_iconst (v := -1) hx hb dX2_init_29 (by decide) ?_
  refine x_puti hx hb hown hts hK hR kX2 ⟨rfl, by decide⟩ (j := 5) (by decide) fl_X2_21 rfl rfl rfl rfl dX2_init_30 (fun H locs hR => ?_)
  obtain ⟨M30, e30⟩ : ∃ y : Mem, y = (sI M 26 5 (-1 : Int32)) := ⟨_, rfl⟩
  rw [← e30] at hR
  have hz : zf M30 30 := by rw [e30]; exact zf_sI hz (by decide)
  refine lv_aload_n hx hb dX2_init_33 rfl (lv_at hl 0 rfl) ?_
  refine lv_aload_n hx hb dX2_init_34 rfl (lv_at hl 1 rfl) ?_
  refine x_putr (rs1 := [some 1, some 27, some 28, some 29, none, none]) hx hb hown hts hK hR kX2 ⟨rfl, by decide⟩ (j := 0) (by decide) fl_X2_25 (Or.inr ⟨rfl, hin, rfl⟩) rfl rfl rfl (by decide) rfl dX2_init_35 (fun H locs hR => ?_)
  exact ct_end hx hb hr hlk hR (by rw [e30]) dX2_init_38
theorem zzX2_init_26 {M : Mem} (h : zf M 30) : zf (sI M 26 5 (-1 : Int32)) 30 := (zf_sI h (by decide))
set_option maxHeartbeats 8000000 in
set_option maxRecDepth 100000 in
theorem ctX4_init_30 {l : Launch} {E : Ge} {sh : Nat → Sh} {M : Mem} (hz : zf M 31) : CT l E yX4_init cX4_init 3 none 2 4 48 [.ref (eB E + 30), .ref (eB E + 1), .ref (eB E + 26)] none (shp sh 30 (0, 4, List.replicate 8 none)) 31 M (shp (shp (shp (shp (shp (shp (shp (shp (shp (shp (shp sh 30 (0, 4, List.replicate 8 none)) 31 (2, 15, [])) 30 (0, 4, [none, none, some 31, none, none, none, none, none])) 32 (2, 15, [])) 30 (0, 4, [none, none, some 31, some 32, none, none, none, none])) 33 (2, 15, [])) 30 (0, 4, [none, none, some 31, some 32, some 33, none, none, none])) 34 (1, 3, [])) 30 (0, 4, [none, none, some 31, some 32, some 33, none, some 34, none])) 30 (0, 4, [some 1, none, some 31, some 32, some 33, none, some 34, none])) 30 (0, 4, [some 1, some 26, some 31, some 32, some 33, none, some 34, none])) 35 (sI (sI (sI (sI M 34 (ix (0 : Int32)) (-1 : Int32)) 34 (ix (1 : Int32)) (-1 : Int32)) 34 (ix (2 : Int32)) (-1 : Int32)) 30 7 (-1 : Int32)) := by
  refine met_of (by decide) (Nat.le_of_ble_eq_true rfl) ?_
  intro p e s m args below meth c X hi hR ls hl
  obtain ⟨hx, hb, hr, hml, hown, hts, hK, hN, hO, hlk, hbs⟩ := id X
  have hin := hi rfl
  refine lv_aload_n hx hb dX4_init_0 rfl (lv_at hl 0 rfl) ?_
  refine W.objInit hx hb hown (hts _ ml_X4_3) (hts _ im_obj) (hts _ co_obj) rfl (by rw [hml]; exact hl.1) rfl dX4_init_1 (Nat.le_of_ble_eq_true rfl) (Nat.le_of_ble_eq_true rfl) ?_
  refine W.eq (g2 := F0 m 4 ls []) rfl ?_
  refine lv_aload_n hx hb dX4_init_4 rfl (lv_at hl 0 rfl) ?_
  refine lv_bipush (v := 15) hx hb dX4_init_5 (by decide) ?_
  refine x_newaJ (len := 15) hx hb hts hK hR hz (by decide) (by decide) (Nat.le_of_ble_eq_true rfl) (Nat.le_of_ble_eq_true rfl) (Nat.le_of_ble_eq_true rfl) dX4_init_7 (fun H hR => ?_)
  have hR : Rl E _ 32 s.heap M H _ := hR
  have hz := zf.up (n1 := 32) hz (by decide)
  refine x_putr (rs1 := [none, none, some 31, none, none, none, none, none]) hx hb hown hts hK hR kX4 ⟨rfl, by decide⟩ (j := 2) (by decide) fl_X4_11 (Or.inr ⟨rfl, hin, rfl⟩) rfl rfl rfl (by decide) rfl dX4_init_9 (fun H locs hR => ?_)
  refine lv_aload_n hx hb dX4_init_12 rfl (lv_at hl 0 rfl) ?_
  refine lv_bipush (v := 15) hx hb dX4_init_13 (by decide) ?_
  refine x_newaJ (len := 15) hx hb hts hK hR hz (by decide) (by decide) (Nat.le_of_ble_eq_true rfl) (Nat.le_of_ble_eq_true rfl) (Nat.le_of_ble_eq_true rfl) dX4_init_15 (fun H hR => ?_)
  have hR : Rl E _ 33 s.heap M H _ := hR
  have hz := zf.up (n1 := 33) hz (by decide)
  refine x_putr (rs1 := [none, none, some 31, some 32, none, none, none, none]) hx hb hown hts hK hR kX4 ⟨rfl, by decide⟩ (j := 3) (by decide) fl_X4_15 (Or.inr ⟨rfl, hin, rfl⟩) rfl rfl rfl (by decide) rfl dX4_init_17 (fun H locs hR => ?_)
  refine lv_aload_n hx hb dX4_init_20 rfl (lv_at hl 0 rfl) ?_
  refine lv_bipush (v := 15) hx hb dX4_init_21 (by decide) ?_
  refine x_newaJ (len := 15) hx hb hts hK hR hz (by decide) (by decide) (Nat.le_of_ble_eq_true rfl) (Nat.le_of_ble_eq_true rfl) (Nat.le_of_ble_eq_true rfl) dX4_init_23 (fun H hR => ?_)
  have hR : Rl E _ 34 s.heap M H _ := hR
  have hz := zf.up (n1 := 34) hz (by decide)
  refine x_putr (rs1 := [none, none, some 31, some 32, some 33, none, none, none]) hx hb hown hts hK hR kX4 ⟨rfl, by decide⟩ (j := 4) (by decide) fl_X4_18 (Or.inr ⟨rfl, hin, rfl⟩) rfl rfl rfl (by decide) rfl dX4_init_25 (fun H locs hR => ?_)
  refine lv_aload_n hx hb dX4_init_28 rfl (lv_at hl 0 rfl) ?_
  refine lv_iconst (v := 3) hx hb dX4_init_29 (by decide) ?_
  refine x_newaI (len := 3) hx hb hts hK hR hz (by decide) (by decide) (Nat.le_of_ble_eq_true rfl) (Nat.le_of_ble_eq_true rfl) (Nat.le_of_ble_eq_true rfl) dX4_init_30 (fun H hR => ?_)
  have hR : Rl E _ 35 s.heap M H _ := hR
  have hz := zf.up (n1 := 35) hz (by decide)
  refine lv_dup hx hb dX4_init_32 rfl ?_
  refine lv_iconst (v := 0) hx hb dX4_init_33 (by decide) ?_
  refine lv_iconst (v := -1) hx hb dX4_init_34 (by decide) ?_
  refine x_iast hx hb hK hR ⟨rfl, by decide⟩ (by decide) dX4_init_35 (fun H locs hR => ?_)
  obtain ⟨M35, e35⟩ : ∃ y : Mem, y = (sI M 34 (ix (0 : Int32)) (-1 : Int32)) := ⟨_, rfl⟩
  rw [← e35] at hR
  have hz : zf M35 35 := by rw [e35]; exact zf_sI hz (by decide)
  refine lv_dup hx hb dX4_init_36 rfl ?_
  refine lv_iconst (v := 1) hx hb dX4_init_37 (by decide) ?_
  refine lv_iconst (v := -1) hx hb dX4_init_38 (by decide) ?_
  refine x_iast hx hb hK hR ⟨rfl, by decide⟩ (by decide) dX4_init_39 (fun H locs hR => ?_)
  obtain ⟨M39, e39⟩ : ∃ y : Mem, y = (sI M35 34 (ix (1 : Int32)) (-1 : Int32)) := ⟨_, rfl⟩
  rw [← e39] at hR
  have hz : zf M39 35 := by rw [e39]; exact zf_sI hz (by decide)
  refine lv_dup hx hb dX4_init_40 rfl ?_
  refine lv_iconst (v := 2) hx hb dX4_init_41 (by decide) ?_
  refine lv_iconst (v := -1) hx hb dX4_init_42 (by decide) ?_
  refine x_iast hx hb hK hR ⟨rfl, by decide⟩ (by decide) dX4_init_43 (fun H locs hR => ?_)
  obtain ⟨M43, e43⟩ : ∃ y : Mem, y = (sI M39 34 (ix (2 : Int32)) (-1 : Int32)) := ⟨_, rfl⟩
  rw [← e43] at hR
  have hz : zf M43 35 := by rw [e43]; exact zf_sI hz (by decide)
  refine x_putr (rs1 := [none, none, some 31, some 32, some 33, none, some 34, none]) hx hb hown hts hK hR kX4 ⟨rfl, by decide⟩ (j := 6) (by decide) fl_X4_21 (Or.inr ⟨rfl, hin, rfl⟩) rfl rfl rfl (by decide) rfl dX4_init_44 (fun H locs hR => ?_)
  refine lv_aload_n hx hb dX4_init_47 rfl (lv_at hl 0 rfl) ?_
  refine lv_iconst (v := -1) hx hb dX4_init_48 (by decide) ?_
  refine x_puti hx hb hown hts hK hR kX4 ⟨rfl, by decide⟩ (j := 7) (by decide) fl_X4_25 rfl rfl rfl rfl dX4_init_49 (fun H locs hR => ?_)
  obtain ⟨M49, e49⟩ : ∃ y : Mem, y = (sI M43 30 7 (-1 : Int32)) := ⟨_, rfl⟩
  rw [← e49] at hR
  have hz : zf M49 35 := by rw [e49]; exact zf_sI hz (by decide)
  refine lv_aload_n hx hb dX4_init_52 rfl (lv_at hl 0 rfl) ?_
  refine lv_aload_n hx hb dX4_init_53 rfl (lv_at hl 1 rfl) ?_
  refine x_putr (rs1 := [some 1, none, some 31, some 32, some 33, none, some 34, none]) hx hb hown hts hK hR kX4 ⟨rfl, by decide⟩ (j := 0) (by decide) fl_X4_29 (Or.inr ⟨rfl, hin, rfl⟩) rfl rfl rfl (by decide) rfl dX4_init_54 (fun H locs hR => ?_)
  refine lv_aload_n hx hb dX4_init_57 rfl (lv_at hl 0 rfl) ?_
  refine lv_aload_n hx hb dX4_init_58 rfl (lv_at hl 2 rfl) ?_
  refine x_putr (rs1 := [some 1, some 26, some 31, some 32, some 33, none, some 34, none]) hx hb hown hts hK hR kX4 ⟨rfl, by decide⟩ (j := 1) (by decide) fl_X4_33 (Or.inr ⟨rfl, hin, rfl⟩) rfl rfl rfl (by decide) rfl dX4_init_59 (fun H locs hR => ?_)
  exact ct_end hx hb hr hlk hR (by rw [e49, e43, e39, e35]) dX4_init_62
theorem zzX4_init_30 {M : Mem} (h : zf M 35) : zf (sI (sI (sI (sI M 34 (ix (0 : Int32)) (-1 : Int32)) 34 (ix (1 : Int32)) (-1 : Int32)) 34 (ix (2 : Int32)) (-1 : Int32)) 30 7 (-1 : Int32)) 35 := (zf_sI (zf_sI (zf_sI (zf_sI h (by decide)) (by decide)) (by decide)) (by decide))
set_option maxHeartbeats 8000000 in
set_option maxRecDepth 100000 in
theorem ctX7_init_35 {l : Launch} {E : Ge} {sh : Nat → Sh} {M : Mem} (hz : zf M 36) : CT l E yX7_init cX7_init 2 none 2 0 0 [.ref (eB E + 35), .ref (eB E + 26)] none (shp sh 35 (0, 7, List.replicate 7 none)) 36 M (shp (shp sh 35 (0, 7, List.replicate 7 none)) 35 (0, 7, [some 26, none, none, none, none, none, none])) 36 (sI (sL M 35 4 (1 : Int64)) 35 6 (-1 : Int32)) := by
  refine met_of (by decide) (Nat.le_of_ble_eq_true rfl) ?_
  intro p e s m args below meth c X hi hR ls hl
  obtain ⟨hx, hb, hr, hml, hown, hts, hK, hN, hO, hlk, hbs⟩ := id X
  have hin := hi rfl
  refine lv_aload_n hx hb dX7_init_0 rfl (lv_at hl 0 rfl) ?_
  refine W.objInit hx hb hown (hts _ ml_X7_3) (hts _ im_obj) (hts _ co_obj) rfl (by rw [hml]; exact hl.1) rfl dX7_init_1 (Nat.le_of_ble_eq_true rfl) (Nat.le_of_ble_eq_true rfl) ?_
  refine W.eq (g2 := F0 m 4 ls []) rfl ?_
  refine lv_aload_n hx hb dX7_init_4 rfl (lv_at hl 0 rfl) ?_
  refine lv_lconst (v := 1) hx hb dX7_init_5 (by decide) ?_
  refine x_putl hx hb hown hts hK hR kX7 ⟨rfl, by decide⟩ (j := 4) (by decide) fl_X7_9 rfl rfl rfl rfl dX7_init_6 (fun H locs hR => ?_)
  obtain ⟨M6, e6⟩ : ∃ y : Mem, y = (sL M 35 4 (1 : Int64)) := ⟨_, rfl⟩
  rw [← e6] at hR
  have hz : zf M6 36 := by rw [e6]; exact zf_sL hz (by decide)
  refine lv_aload_n hx hb dX7_init_9 rfl (lv_at hl 0 rfl) ?_
  refine lv_iconst (v := -1) hx hb dX7_init_10 (by decide) ?_
  refine x_puti hx hb hown hts hK hR kX7 ⟨rfl, by decide⟩ (j := 6) (by decide) fl_X7_15 rfl rfl rfl rfl dX7_init_11 (fun H locs hR => ?_)
  obtain ⟨M11, e11⟩ : ∃ y : Mem, y = (sI M6 35 6 (-1 : Int32)) := ⟨_, rfl⟩
  rw [← e11] at hR
  have hz : zf M11 36 := by rw [e11]; exact zf_sI hz (by decide)
  refine lv_aload_n hx hb dX7_init_14 rfl (lv_at hl 0 rfl) ?_
  refine lv_aload_n hx hb dX7_init_15 rfl (lv_at hl 1 rfl) ?_
  refine x_putr (rs1 := [some 26, none, none, none, none, none, none]) hx hb hown hts hK hR kX7 ⟨rfl, by decide⟩ (j := 0) (by decide) fl_X7_19 (Or.inr ⟨rfl, hin, rfl⟩) rfl rfl rfl (by decide) rfl dX7_init_16 (fun H locs hR => ?_)
  exact ct_end hx hb hr hlk hR (by rw [e11, e6]) dX7_init_19
theorem zzX7_init_35 {M : Mem} (h : zf M 36) : zf (sI (sL M 35 4 (1 : Int64)) 35 6 (-1 : Int32)) 36 := (zf_sI (zf_sL h (by decide)) (by decide))
set_option maxHeartbeats 8000000 in
set_option maxRecDepth 100000 in
theorem ctX3_init_36 {l : Launch} {E : Ge} {sh : Nat → Sh} {M : Mem} (hz : zf M 37) : CT l E yX3_init cX3_init 2 none 2 3 328 [.ref (eB E + 36), .ref (eB E + 21)] none (shp sh 36 (0, 3, List.replicate 10 none)) 37 M (shp (shp (shp (shp (shp (shp (shp (shp sh 36 (0, 3, List.replicate 10 none)) 37 (1, 64, [])) 36 (0, 3, [none, some 37, none, none, none, none, none, none, none, none])) 38 (2, 256, [])) 36 (0, 3, [none, some 37, some 38, none, none, none, none, none, none, none])) 39 (2, 8, [])) 36 (0, 3, [none, some 37, some 38, some 39, none, none, none, none, none, none])) 36 (0, 3, [some 21, some 37, some 38, some 39, none, none, none, none, none, none])) 40 (sI (sI (sI M 36 7 (-1 : Int32)) 36 8 (-1 : Int32)) 36 9 (-1 : Int32)) := by
  refine met_of (by decide) (Nat.le_of_ble_eq_true rfl) ?_
  intro p e s m args below meth c X hi hR ls hl
  obtain ⟨hx, hb, hr, hml, hown, hts, hK, hN, hO, hlk, hbs⟩ := id X
  have hin := hi rfl
  refine lv_aload_n hx hb dX3_init_0 rfl (lv_at hl 0 rfl) ?_
  refine W.objInit hx hb hown (hts _ ml_X3_3) (hts _ im_obj) (hts _ co_obj) rfl (by rw [hml]; exact hl.1) rfl dX3_init_1 (Nat.le_of_ble_eq_true rfl) (Nat.le_of_ble_eq_true rfl) ?_
  refine W.eq (g2 := F0 m 4 ls []) rfl ?_
  refine lv_aload_n hx hb dX3_init_4 rfl (lv_at hl 0 rfl) ?_
  refine lv_bipush (v := 64) hx hb dX3_init_5 (by decide) ?_
  refine x_newaI (len := 64) hx hb hts hK hR hz (by decide) (by decide) (Nat.le_of_ble_eq_true rfl) (Nat.le_of_ble_eq_true rfl) (Nat.le_of_ble_eq_true rfl) dX3_init_7 (fun H hR => ?_)
  have hR : Rl E _ 38 s.heap M H _ := hR
  have hz := zf.up (n1 := 38) hz (by decide)
  refine x_putr (rs1 := [none, some 37, none, none, none, none, none, none, none, none]) hx hb hown hts hK hR kX3 ⟨rfl, by decide⟩ (j := 1) (by decide) fl_X3_9 (Or.inr ⟨rfl, hin, rfl⟩) rfl rfl rfl (by decide) rfl dX3_init_9 (fun H locs hR => ?_)
  refine lv_aload_n hx hb dX3_init_12 rfl (lv_at hl 0 rfl) ?_
  refine lv_sipush (v := 256) hx hb dX3_init_13 (by decide) ?_
  refine x_newaJ (len := 256) hx hb hts hK hR hz (by decide) (by decide) (Nat.le_of_ble_eq_true rfl) (Nat.le_of_ble_eq_true rfl) (Nat.le_of_ble_eq_true rfl) dX3_init_16 (fun H hR => ?_)
  have hR : Rl E _ 39 s.heap M H _ := hR
  have hz := zf.up (n1 := 39) hz (by decide)
  refine x_putr (rs1 := [none, some 37, some 38, none, none, none, none, none, none, none]) hx hb hown hts hK hR kX3 ⟨rfl, by decide⟩ (j := 2) (by decide) fl_X3_15 (Or.inr ⟨rfl, hin, rfl⟩) rfl rfl rfl (by decide) rfl dX3_init_18 (fun H locs hR => ?_)
  refine lv_aload_n hx hb dX3_init_21 rfl (lv_at hl 0 rfl) ?_
  refine lv_bipush (v := 8) hx hb dX3_init_22 (by decide) ?_
  refine x_newaJ (len := 8) hx hb hts hK hR hz (by decide) (by decide) (Nat.le_of_ble_eq_true rfl) (Nat.le_of_ble_eq_true rfl) (Nat.le_of_ble_eq_true rfl) dX3_init_24 (fun H hR => ?_)
  have hR : Rl E _ 40 s.heap M H _ := hR
  have hz := zf.up (n1 := 40) hz (by decide)
  refine x_putr (rs1 := [none, some 37, some 38, some 39, none, none, none, none, none, none]) hx hb hown hts hK hR kX3 ⟨rfl, by decide⟩ (j := 3) (by decide) fl_X3_19 (Or.inr ⟨rfl, hin, rfl⟩) rfl rfl rfl (by decide) rfl dX3_init_26 (fun H locs hR => ?_)
  refine lv_aload_n hx hb dX3_init_29 rfl (lv_at hl 0 rfl) ?_
  refine lv_iconst (v := -1) hx hb dX3_init_30 (by decide) ?_
  refine x_puti hx hb hown hts hK hR kX3 ⟨rfl, by decide⟩ (j := 7) (by decide) fl_X3_22 rfl rfl rfl rfl dX3_init_31 (fun H locs hR => ?_)
  obtain ⟨M31, e31⟩ : ∃ y : Mem, y = (sI M 36 7 (-1 : Int32)) := ⟨_, rfl⟩
  rw [← e31] at hR
  have hz : zf M31 40 := by rw [e31]; exact zf_sI hz (by decide)
  refine lv_aload_n hx hb dX3_init_34 rfl (lv_at hl 0 rfl) ?_
  refine lv_iconst (v := -1) hx hb dX3_init_35 (by decide) ?_
  refine x_puti hx hb hown hts hK hR kX3 ⟨rfl, by decide⟩ (j := 8) (by decide) fl_X3_26 rfl rfl rfl rfl dX3_init_36 (fun H locs hR => ?_)
  obtain ⟨M36, e36⟩ : ∃ y : Mem, y = (sI M31 36 8 (-1 : Int32)) := ⟨_, rfl⟩
  rw [← e36] at hR
  have hz : zf M36 40 := by rw [e36]; exact zf_sI hz (by decide)
  refine lv_aload_n hx hb dX3_init_39 rfl (lv_at hl 0 rfl) ?_
  refine lv_iconst (v := -1) hx hb dX3_init_40 (by decide) ?_
  refine x_puti hx hb hown hts hK hR kX3 ⟨rfl, by decide⟩ (j := 9) (by decide) fl_X3_29 rfl rfl rfl rfl dX3_init_41 (fun H locs hR => ?_)
  obtain ⟨M41, e41⟩ : ∃ y : Mem, y = (sI M36 36 9 (-1 : Int32)) := ⟨_, rfl⟩
  rw [← e41] at hR
  have hz : zf M41 40 := by rw [e41]; exact zf_sI hz (by decide)
  refine lv_aload_n hx hb dX3_init_44 rfl (lv_at hl 0 rfl) ?_
  refine lv_aload_n hx hb dX3_init_45 rfl (lv_at hl 1 rfl) ?_
  refine x_putr (rs1 := [some 21, some 37, some 38, some 39, none, none, none, none, none, none]) hx hb hown hts hK hR kX3 ⟨rfl, by decide⟩ (j := 0) (by decide) fl_X3_32 (Or.inr ⟨rfl, hin, rfl⟩) rfl rfl rfl (by decide) rfl dX3_init_46 (fun H locs hR => ?_)
  exact ct_end hx hb hr hlk hR (by rw [e41, e36, e31]) dX3_init_49
theorem zzX3_init_36 {M : Mem} (h : zf M 40) : zf (sI (sI (sI M 36 7 (-1 : Int32)) 36 8 (-1 : Int32)) 36 9 (-1 : Int32)) 40 := (zf_sI (zf_sI (zf_sI h (by decide)) (by decide)) (by decide))
set_option maxHeartbeats 8000000 in
set_option maxRecDepth 100000 in
theorem ctX9_init_40 {l : Launch} {E : Ge} {sh : Nat → Sh} {M : Mem} (h21 : sh 21 = (0, 0, [some 1, some 22, some 23, some 24, some 25, none, none, none, none])) (hz : zf M 41) : CT l E yX9_init cX9_init 2 none 2 4 400 [.ref (eB E + 40), .ref (eB E + 21)] none (shp sh 40 (0, 9, List.replicate 11 none)) 41 M (shp (shp (shp (shp (shp (shp (shp (shp (shp (shp (shp sh 40 (0, 9, List.replicate 11 none)) 41 (1, 20, [])) 40 (0, 9, [none, none, some 41, none, none, none, none, none, none, none, none])) 42 (1, 20, [])) 40 (0, 9, [none, none, some 41, some 42, none, none, none, none, none, none, none])) 43 (1, 180, [])) 40 (0, 9, [none, none, some 41, some 42, some 43, none, none, none, none, none, none])) 44 (1, 180, [])) 40 (0, 9, [none, none, some 41, some 42, some 43, some 44, none, none, none, none, none])) 40 (0, 9, [some 21, none, some 41, some 42, some 43, some 44, none, none, none, none, none])) 40 (0, 9, [some 21, some 1, some 41, some 42, some 43, some 44, none, none, none, none, none])) 45 (sI (sI (sI (sI (sI M 40 6 (-1 : Int32)) 40 7 (-1 : Int32)) 40 8 (-1 : Int32)) 40 9 (-1 : Int32)) 40 10 (-1 : Int32)) := by
  refine met_of (by decide) (Nat.le_of_ble_eq_true rfl) ?_
  intro p e s m args below meth c X hi hR ls hl
  obtain ⟨hx, hb, hr, hml, hown, hts, hK, hN, hO, hlk, hbs⟩ := id X
  have hin := hi rfl
  refine lv_aload_n hx hb dX9_init_0 rfl (lv_at hl 0 rfl) ?_
  refine W.objInit hx hb hown (hts _ ml_X9_3) (hts _ im_obj) (hts _ co_obj) rfl (by rw [hml]; exact hl.1) rfl dX9_init_1 (Nat.le_of_ble_eq_true rfl) (Nat.le_of_ble_eq_true rfl) ?_
  refine W.eq (g2 := F0 m 4 ls []) rfl ?_
  refine lv_aload_n hx hb dX9_init_4 rfl (lv_at hl 0 rfl) ?_
  refine lv_bipush (v := 20) hx hb dX9_init_5 (by decide) ?_
  refine x_newaI (len := 20) hx hb hts hK hR hz (by decide) (by decide) (Nat.le_of_ble_eq_true rfl) (Nat.le_of_ble_eq_true rfl) (Nat.le_of_ble_eq_true rfl) dX9_init_7 (fun H hR => ?_)
  have hR : Rl E _ 42 s.heap M H _ := hR
  have hz := zf.up (n1 := 42) hz (by decide)
  refine x_putr (rs1 := [none, none, some 41, none, none, none, none, none, none, none, none]) hx hb hown hts hK hR kX9 ⟨rfl, by decide⟩ (j := 2) (by decide) fl_X9_9 (Or.inr ⟨rfl, hin, rfl⟩) rfl rfl rfl (by decide) rfl dX9_init_9 (fun H locs hR => ?_)
  refine lv_aload_n hx hb dX9_init_12 rfl (lv_at hl 0 rfl) ?_
  refine lv_bipush (v := 20) hx hb dX9_init_13 (by decide) ?_
  refine x_newaI (len := 20) hx hb hts hK hR hz (by decide) (by decide) (Nat.le_of_ble_eq_true rfl) (Nat.le_of_ble_eq_true rfl) (Nat.le_of_ble_eq_true rfl) dX9_init_15 (fun H hR => ?_)
  have hR : Rl E _ 43 s.heap M H _ := hR
  have hz := zf.up (n1 := 43) hz (by decide)
  refine x_putr (rs1 := [none, none, some 41, some 42, none, none, none, none, none, none, none]) hx hb hown hts hK hR kX9 ⟨rfl, by decide⟩ (j := 3) (by decide) fl_X9_15 (Or.inr ⟨rfl, hin, rfl⟩) rfl rfl rfl (by decide) rfl dX9_init_17 (fun H locs hR => ?_)
  refine lv_aload_n hx hb dX9_init_20 rfl (lv_at hl 0 rfl) ?_
  refine lv_sipush (v := 180) hx hb dX9_init_21 (by decide) ?_
  refine x_newaI (len := 180) hx hb hts hK hR hz (by decide) (by decide) (Nat.le_of_ble_eq_true rfl) (Nat.le_of_ble_eq_true rfl) (Nat.le_of_ble_eq_true rfl) dX9_init_24 (fun H hR => ?_)
  have hR : Rl E _ 44 s.heap M H _ := hR
  have hz := zf.up (n1 := 44) hz (by decide)
  refine x_putr (rs1 := [none, none, some 41, some 42, some 43, none, none, none, none, none, none]) hx hb hown hts hK hR kX9 ⟨rfl, by decide⟩ (j := 4) (by decide) fl_X9_18 (Or.inr ⟨rfl, hin, rfl⟩) rfl rfl rfl (by decide) rfl dX9_init_26 (fun H locs hR => ?_)
  refine lv_aload_n hx hb dX9_init_29 rfl (lv_at hl 0 rfl) ?_
  refine lv_sipush (v := 180) hx hb dX9_init_30 (by decide) ?_
  refine x_newaI (len := 180) hx hb hts hK hR hz (by decide) (by decide) (Nat.le_of_ble_eq_true rfl) (Nat.le_of_ble_eq_true rfl) (Nat.le_of_ble_eq_true rfl) dX9_init_33 (fun H hR => ?_)
  have hR : Rl E _ 45 s.heap M H _ := hR
  have hz := zf.up (n1 := 45) hz (by decide)
  refine x_putr (rs1 := [none, none, some 41, some 42, some 43, some 44, none, none, none, none, none]) hx hb hown hts hK hR kX9 ⟨rfl, by decide⟩ (j := 5) (by decide) fl_X9_21 (Or.inr ⟨rfl, hin, rfl⟩) rfl rfl rfl (by decide) rfl dX9_init_35 (fun H locs hR => ?_)
  refine lv_aload_n hx hb dX9_init_38 rfl (lv_at hl 0 rfl) ?_
  refine lv_iconst (v := -1) hx hb dX9_init_39 (by decide) ?_
  refine x_puti hx hb hown hts hK hR kX9 ⟨rfl, by decide⟩ (j := 6) (by decide) fl_X9_24 rfl rfl rfl rfl dX9_init_40 (fun H locs hR => ?_)
  obtain ⟨M40, e40⟩ : ∃ y : Mem, y = (sI M 40 6 (-1 : Int32)) := ⟨_, rfl⟩
  rw [← e40] at hR
  have hz : zf M40 45 := by rw [e40]; exact zf_sI hz (by decide)
  refine lv_aload_n hx hb dX9_init_43 rfl (lv_at hl 0 rfl) ?_
  refine lv_iconst (v := -1) hx hb dX9_init_44 (by decide) ?_
  refine x_puti hx hb hown hts hK hR kX9 ⟨rfl, by decide⟩ (j := 7) (by decide) fl_X9_28 rfl rfl rfl rfl dX9_init_45 (fun H locs hR => ?_)
  obtain ⟨M45, e45⟩ : ∃ y : Mem, y = (sI M40 40 7 (-1 : Int32)) := ⟨_, rfl⟩
  rw [← e45] at hR
  have hz : zf M45 45 := by rw [e45]; exact zf_sI hz (by decide)
  refine lv_aload_n hx hb dX9_init_48 rfl (lv_at hl 0 rfl) ?_
  refine lv_iconst (v := -1) hx hb dX9_init_49 (by decide) ?_
  refine x_puti hx hb hown hts hK hR kX9 ⟨rfl, by decide⟩ (j := 8) (by decide) fl_X9_31 rfl rfl rfl rfl dX9_init_50 (fun H locs hR => ?_)
  obtain ⟨M50, e50⟩ : ∃ y : Mem, y = (sI M45 40 8 (-1 : Int32)) := ⟨_, rfl⟩
  rw [← e50] at hR
  have hz : zf M50 45 := by rw [e50]; exact zf_sI hz (by decide)
  refine lv_aload_n hx hb dX9_init_53 rfl (lv_at hl 0 rfl) ?_
  refine lv_iconst (v := -1) hx hb dX9_init_54 (by decide) ?_
  refine x_puti hx hb hown hts hK hR kX9 ⟨rfl, by decide⟩ (j := 9) (by decide) fl_X9_34 rfl rfl rfl rfl dX9_init_55 (fun H locs hR => ?_)
  obtain ⟨M55, e55⟩ : ∃ y : Mem, y = (sI M50 40 9 (-1 : Int32)) := ⟨_, rfl⟩
  rw [← e55] at hR
  have hz : zf M55 45 := by rw [e55]; exact zf_sI hz (by decide)
  refine lv_aload_n hx hb dX9_init_58 rfl (lv_at hl 0 rfl) ?_
  refine lv_iconst (v := -1) hx hb dX9_init_59 (by decide) ?_
  refine x_puti hx hb hown hts hK hR kX9 ⟨rfl, by decide⟩ (j := 10) (by decide) fl_X9_37 rfl rfl rfl rfl dX9_init_60 (fun H locs hR => ?_)
  obtain ⟨M60, e60⟩ : ∃ y : Mem, y = (sI M55 40 10 (-1 : Int32)) := ⟨_, rfl⟩
  rw [← e60] at hR
  have hz : zf M60 45 := by rw [e60]; exact zf_sI hz (by decide)
  refine lv_aload_n hx hb dX9_init_63 rfl (lv_at hl 0 rfl) ?_
  refine lv_aload_n hx hb dX9_init_64 rfl (lv_at hl 1 rfl) ?_
  refine x_putr (rs1 := [some 21, none, some 41, some 42, some 43, some 44, none, none, none, none, none]) hx hb hown hts hK hR kX9 ⟨rfl, by decide⟩ (j := 0) (by decide) fl_X9_40 (Or.inr ⟨rfl, hin, rfl⟩) rfl rfl rfl (by decide) rfl dX9_init_65 (fun H locs hR => ?_)
  refine lv_aload_n hx hb dX9_init_68 rfl (lv_at hl 0 rfl) ?_
  refine lv_aload_n hx hb dX9_init_69 rfl (lv_at hl 1 rfl) ?_
  refine x_get hx hb hown hts hK hR kX0 (k := 21) ⟨h21, by decide⟩ (j := 0) (by decide) fl_X9_44 (v := .ref (eB E + 1)) rfl dX9_init_70 ?_
  refine x_putr (rs1 := [some 21, some 1, some 41, some 42, some 43, some 44, none, none, none, none, none]) hx hb hown hts hK hR kX9 ⟨rfl, by decide⟩ (j := 1) (by decide) fl_X9_50 (Or.inr ⟨rfl, hin, rfl⟩) rfl rfl rfl (by decide) rfl dX9_init_73 (fun H locs hR => ?_)
  exact ct_end hx hb hr hlk hR (by rw [e60, e55, e50, e45, e40]) dX9_init_76
theorem zzX9_init_40 {M : Mem} (h : zf M 45) : zf (sI (sI (sI (sI (sI M 40 6 (-1 : Int32)) 40 7 (-1 : Int32)) 40 8 (-1 : Int32)) 40 9 (-1 : Int32)) 40 10 (-1 : Int32)) 45 := (zf_sI (zf_sI (zf_sI (zf_sI (zf_sI h (by decide)) (by decide)) (by decide)) (by decide)) (by decide))
set_option maxHeartbeats 8000000 in
set_option maxRecDepth 100000 in
theorem ctX5_init_45 {l : Launch} {E : Ge} {sh : Nat → Sh} {M : Mem} (hz : zf M 46) : CT l E yX5_init cX5_init 1 none 2 1 360 [.ref (eB E + 45)] none (shp sh 45 (0, 5, List.replicate 2 none)) 46 M (shp (shp (shp sh 45 (0, 5, List.replicate 2 none)) 46 (1, 360, [])) 45 (0, 5, [some 46, none])) 47 M := by
  refine met_of (by decide) (Nat.le_of_ble_eq_true rfl) ?_
  intro p e s m args below meth c X hi hR ls hl
  obtain ⟨hx, hb, hr, hml, hown, hts, hK, hN, hO, hlk, hbs⟩ := id X
  have hin := hi rfl
  refine lv_aload_n hx hb dX5_init_0 rfl (lv_at hl 0 rfl) ?_
  refine W.objInit hx hb hown (hts _ ml_X5_3) (hts _ im_obj) (hts _ co_obj) rfl (by rw [hml]; exact hl.1) rfl dX5_init_1 (Nat.le_of_ble_eq_true rfl) (Nat.le_of_ble_eq_true rfl) ?_
  refine W.eq (g2 := F0 m 4 ls []) rfl ?_
  refine lv_aload_n hx hb dX5_init_4 rfl (lv_at hl 0 rfl) ?_
  refine lv_sipush (v := 360) hx hb dX5_init_5 (by decide) ?_
  refine x_newaI (len := 360) hx hb hts hK hR hz (by decide) (by decide) (Nat.le_of_ble_eq_true rfl) (Nat.le_of_ble_eq_true rfl) (Nat.le_of_ble_eq_true rfl) dX5_init_8 (fun H hR => ?_)
  have hR : Rl E _ 47 s.heap M H _ := hR
  have hz := zf.up (n1 := 47) hz (by decide)
  refine x_putr (rs1 := [some 46, none]) hx hb hown hts hK hR kX5 ⟨rfl, by decide⟩ (j := 0) (by decide) fl_X5_11 (Or.inr ⟨rfl, hin, rfl⟩) rfl rfl rfl (by decide) rfl dX5_init_10 (fun H locs hR => ?_)
  exact ct_end hx hb hr hlk hR rfl dX5_init_13
set_option maxHeartbeats 8000000 in
set_option maxRecDepth 100000 in
theorem ctX10_init_0 {l : Launch} {E : Ge} {sh : Nat → Sh} {M : Mem} (hz : zf M 1) : CT l E yX10_init cX10_init 1 none 4 46 2867 [.ref (eB E + 0)] none (shp sh 0 (0, 10, List.replicate 10 none)) 1 M (shp (shp (shp (shp (shp (shp (shp (shp (shp (shp (shp (shp (shp (shp (shp (shp (shp (shp (shp (shp (shp (shp (shp (shp (shp (shp (shp (shp (shp (shp (shp (shp (shp (shp (shp (shp (shp (shp (shp (shp (shp (shp (shp (shp (shp (shp (shp (shp (shp (shp (shp (shp (shp (shp (shp (shp (shp (shp (shp (shp (shp (shp (shp (shp (shp (shp (shp (shp (shp (shp (shp (shp (shp (shp (shp (shp (shp (shp (shp (shp (shp (shp (shp (shp (shp (shp (shp (shp (shp (shp (shp (shp (shp (shp (shp (shp (shp (shp (shp (shp (shp sh 0 (0, 10, List.replicate 10 none)) 1 (0, 8, List.replicate 16 none)) 2 (1, 15, [])) 1 (0, 8, [none, some 2, none, none, none, none, none, none, none, none, none, none, none, none, none, none])) 3 (1, 15, [])) 1 (0, 8, [none, some 2, some 3, none, none, none, none, none, none, none, none, none, none, none, none, none])) 4 (1, 15, [])) 1 (0, 8, [none, some 2, some 3, some 4, none, none, none, none, none, none, none, none, none, none, none, none])) 5 (1, 15, [])) 1 (0, 8, [none, some 2, some 3, some 4, some 5, none, none, none, none, none, none, none, none, none, none, none])) 6 (1, 15, [])) 1 (0, 8, [none, some 2, some 3, some 4, some 5, some 6, none, none, none, none, none, none, none, none, none, none])) 7 (1, 15, [])) 1 (0, 8, [none, some 2, some 3, some 4, some 5, some 6, some 7, none, none, none, none, none, none, none, none, none])) 8 (1, 20, [])) 1 (0, 8, [none, some 2, some 3, some 4, some 5, some 6, some 7, none, none, some 8, none, none, none, none, none, none])) 9 (1, 20, [])) 1 (0, 8, [none, some 2, some 3, some 4, some 5, some 6, some 7, none, none, some 8, some 9, none, none, none, none, none])) 0 (0, 10, [some 1, none, none, none, none, none, none, none, none, none])) 10 (0, 6, List.replicate 11 none)) 11 (3, 600, [])) 10 (0, 6, [some 11, none, none, none, none, none, none, none, none, none, none])) 12 (0, 8, List.replicate 16 none)) 13 (1, 15, [])) 12 (0, 8, [none, some 13, none, none, none, none, none, none, none, none, none, none, none, none, none, none])) 14 (1, 15, [])) 12 (0, 8, [none, some 13, some 14, none, none, none, none, none, none, none, none, none, none, none, none, none])) 15 (1, 15, [])) 12 (0, 8, [none, some 13, some 14, some 15, none, none, none, none, none, none, none, none, none, none, none, none])) 16 (1, 15, [])) 12 (0, 8, [none, some 13, some 14, some 15, some 16, none, none, none, none, none, none, none, none, none, none, none])) 17 (1, 15, [])) 12 (0, 8, [none, some 13, some 14, some 15, some 16, some 17, none, none, none, none, none, none, none, none, none, none])) 18 (1, 15, [])) 12 (0, 8, [none, some 13, some 14, some 15, some 16, some 17, some 18, none, none, none, none, none, none, none, none, none])) 19 (1, 20, [])) 12 (0, 8, [none, some 13, some 14, some 15, some 16, some 17, some 18, none, none, some 19, none, none, none, none, none, none])) 20 (1, 20, [])) 12 (0, 8, [none, some 13, some 14, some 15, some 16, some 17, some 18, none, none, some 19, some 20, none, none, none, none, none])) 10 (0, 6, [some 11, none, some 12, none, none, none, none, none, none, none, none])) 0 (0, 10, [some 1, some 10, none, none, none, none, none, none, none, none])) 21 (0, 0, List.replicate 9 none)) 22 (1, 400, [])) 21 (0, 0, [none, some 22, none, none, none, none, none, none, none])) 23 (1, 20, [])) 21 (0, 0, [none, some 22, some 23, none, none, none, none, none, none])) 24 (1, 20, [])) 21 (0, 0, [none, some 22, some 23, some 24, none, none, none, none, none])) 25 (1, 20, [])) 21 (0, 0, [none, some 22, some 23, some 24, some 25, none, none, none, none])) 21 (0, 0, [some 1, some 22, some 23, some 24, some 25, none, none, none, none])) 0 (0, 10, [some 1, some 10, some 21, none, none, none, none, none, none, none])) 26 (0, 2, List.replicate 6 none)) 27 (1, 105, [])) 26 (0, 2, [none, some 27, none, none, none, none])) 28 (1, 105, [])) 26 (0, 2, [none, some 27, some 28, none, none, none])) 29 (1, 105, [])) 26 (0, 2, [none, some 27, some 28, some 29, none, none])) 26 (0, 2, [some 1, some 27, some 28, some 29, none, none])) 0 (0, 10, [some 1, some 10, some 21, some 26, none, none, none, none, none, none])) 30 (0, 4, List.replicate 8 none)) 31 (2, 15, [])) 30 (0, 4, [none, none, some 31, none, none, none, none, none])) 32 (2, 15, [])) 30 (0, 4, [none, none, some 31, some 32, none, none, none, none])) 33 (2, 15, [])) 30 (0, 4, [none, none, some 31, some 32, some 33, none, none, none])) 34 (1, 3, [])) 30 (0, 4, [none, none, some 31, some 32, some 33, none, some 34, none])) 30 (0, 4, [some 1, none, some 31, some 32, some 33, none, some 34, none])) 30 (0, 4, [some 1, some 26, some 31, some 32, some 33, none, some 34, none])) 0 (0, 10, [some 1, some 10, some 21, some 26, some 30, none, none, none, none, none])) 35 (0, 7, List.replicate 7 none)) 35 (0, 7, [some 26, none, none, none, none, none, none])) 0 (0, 10, [some 1, some 10, some 21, some 26, some 30, some 35, none, none, none, none])) 36 (0, 3, List.replicate 10 none)) 37 (1, 64, [])) 36 (0, 3, [none, some 37, none, none, none, none, none, none, none, none])) 38 (2, 256, [])) 36 (0, 3, [none, some 37, some 38, none, none, none, none, none, none, none])) 39 (2, 8, [])) 36 (0, 3, [none, some 37, some 38, some 39, none, none, none, none, none, none])) 36 (0, 3, [some 21, some 37, some 38, some 39, none, none, none, none, none, none])) 0 (0, 10, [some 1, some 10, some 21, some 26, some 30, some 35, none, some 36, none, none])) 40 (0, 9, List.replicate 11 none)) 41 (1, 20, [])) 40 (0, 9, [none, none, some 41, none, none, none, none, none, none, none, none])) 42 (1, 20, [])) 40 (0, 9, [none, none, some 41, some 42, none, none, none, none, none, none, none])) 43 (1, 180, [])) 40 (0, 9, [none, none, some 41, some 42, some 43, none, none, none, none, none, none])) 44 (1, 180, [])) 40 (0, 9, [none, none, some 41, some 42, some 43, some 44, none, none, none, none, none])) 40 (0, 9, [some 21, none, some 41, some 42, some 43, some 44, none, none, none, none, none])) 40 (0, 9, [some 21, some 1, some 41, some 42, some 43, some 44, none, none, none, none, none])) 0 (0, 10, [some 1, some 10, some 21, some 26, some 30, some 35, none, some 36, some 40, none])) 45 (0, 5, List.replicate 2 none)) 46 (1, 360, [])) 45 (0, 5, [some 46, none])) 0 (0, 10, [some 1, some 10, some 21, some 26, some 30, some 35, none, some 36, some 40, some 45])) 47 (sI (sI (sI (sI (sI (sI (sI (sI (sI (sL (sI (sI (sI (sI (sI (sI (sI (sI M 21 6 (-1 : Int32)) 21 7 (-1 : Int32)) 21 8 (-1 : Int32)) 26 5 (-1 : Int32)) 34 (ix (0 : Int32)) (-1 : Int32)) 34 (ix (1 : Int32)) (-1 : Int32)) 34 (ix (2 : Int32)) (-1 : Int32)) 30 7 (-1 : Int32)) 35 4 (1 : Int64)) 35 6 (-1 : Int32)) 36 7 (-1 : Int32)) 36 8 (-1 : Int32)) 36 9 (-1 : Int32)) 40 6 (-1 : Int32)) 40 7 (-1 : Int32)) 40 8 (-1 : Int32)) 40 9 (-1 : Int32)) 40 10 (-1 : Int32)) := by
  refine met_of (by decide) (Nat.le_of_ble_eq_true rfl) ?_
  intro p e s m args below meth c X hi hR ls hl
  obtain ⟨hx, hb, hr, hml, hown, hts, hK, hN, hO, hlk, hbs⟩ := id X
  have hin := hi rfl
  refine lv_aload_n hx hb dX10_init_0 rfl (lv_at hl 0 rfl) ?_
  refine W.objInit hx hb hown (hts _ ml_X10_3) (hts _ im_obj) (hts _ co_obj) rfl (by rw [hml]; exact hl.1) rfl dX10_init_1 (Nat.le_of_ble_eq_true rfl) (Nat.le_of_ble_eq_true rfl) ?_
  refine W.eq (g2 := F0 m 4 ls []) rfl ?_
  refine lv_aload_n hx hb dX10_init_4 rfl (lv_at hl 0 rfl) ?_
  refine x_new hx hb hown hts hK hR hz kX8 cl_X10_9 is_X8 in_X8 (by decide) (Nat.le_of_ble_eq_true rfl) (Nat.le_of_ble_eq_true rfl) dX10_init_5 (fun H hR => ?_)
  have hR : Rl E _ 2 s.heap M H _ := hR
  have hz := zf.up (n1 := 2) hz (by decide)
  refine lv_dup hx hb dX10_init_8 rfl ?_
  refine x_callIN (As := []) (rest := [.ref (eB E + 1), .ref (eB E + 0)]) X hR (ctX8_init_1 hz) (List.mem_of_getElem? (i := 0) rfl) im_X8_init in_X8 co_X8_init yo_X8_init rfl (rm_ok (by decide) (by decide)) rfl hl.1 rfl (Nat.le_of_ble_eq_true rfl) dX10_init_9 ⟨Nat.le_of_ble_eq_true rfl, Nat.le_of_ble_eq_true rfl⟩ (fun H locs hR => ?_)
  have hR : Rl E _ 10 s.heap M H _ := hR
  have hz := zf.up (n1 := 10) hz (by decide)
  refine x_putr (rs1 := [some 1, none, none, none, none, none, none, none, none, none]) hx hb hown hts hK hR kX10 ⟨rfl, by decide⟩ (j := 0) (by decide) fl_X10_12 (Or.inr ⟨rfl, hin, rfl⟩) rfl rfl rfl (by decide) rfl dX10_init_12 (fun H locs hR => ?_)
  refine lv_aload_n hx hb dX10_init_15 rfl (lv_at hl 0 rfl) ?_
  refine x_new hx hb hown hts hK hR hz kX6 cl_X10_16 is_X6 in_X6 (by decide) (Nat.le_of_ble_eq_true rfl) (Nat.le_of_ble_eq_true rfl) dX10_init_16 (fun H hR => ?_)
  have hR : Rl E _ 11 s.heap M H _ := hR
  have hz := zf.up (n1 := 11) hz (by decide)
  refine lv_dup hx hb dX10_init_19 rfl ?_
  refine x_callIN (As := []) (rest := [.ref (eB E + 10), .ref (eB E + 0)]) X hR (ctX6_init_10 hz) (List.mem_of_getElem? (i := 1) rfl) im_X6_init in_X6 co_X6_init yo_X6_init rfl (rm_ok (by decide) (by decide)) rfl hl.1 rfl (Nat.le_of_ble_eq_true rfl) dX10_init_20 ⟨Nat.le_of_ble_eq_true rfl, Nat.le_of_ble_eq_true rfl⟩ (fun H locs hR => ?_)
  have hR : Rl E _ 21 s.heap M H _ := hR
  have hz := zf.up (n1 := 21) hz (by decide)
  refine x_putr (rs1 := [some 1, some 10, none, none, none, none, none, none, none, none]) hx hb hown hts hK hR kX10 ⟨rfl, by decide⟩ (j := 1) (by decide) fl_X10_19 (Or.inr ⟨rfl, hin, rfl⟩) rfl rfl rfl (by decide) rfl dX10_init_23 (fun H locs hR => ?_)
  refine lv_aload_n hx hb dX10_init_26 rfl (lv_at hl 0 rfl) ?_
  refine x_new hx hb hown hts hK hR hz kX0 cl_X10_23 is_X0 in_X0 (by decide) (Nat.le_of_ble_eq_true rfl) (Nat.le_of_ble_eq_true rfl) dX10_init_27 (fun H hR => ?_)
  have hR : Rl E _ 22 s.heap M H _ := hR
  have hz := zf.up (n1 := 22) hz (by decide)
  refine lv_dup hx hb dX10_init_30 rfl ?_
  refine lv_aload_n hx hb dX10_init_31 rfl (lv_at hl 0 rfl) ?_
  refine x_get hx hb hown hts hK hR kX10 (k := 0) ⟨rfl, by decide⟩ (j := 0) (by decide) fl_X10_12 (v := .ref (eB E + 1)) rfl dX10_init_32 ?_
  refine x_callI (As := [.ref (eB E + 1)]) (rest := [.ref (eB E + 21), .ref (eB E + 0)]) X hR (ctX0_init_21 hz) ml_X10_25 im_X0_init in_X0 co_X0_init yo_X0_init rfl (rm_ok (by decide) (by decide)) rfl hl.1 rfl (Nat.le_of_ble_eq_true rfl) dX10_init_35 ⟨Nat.le_of_ble_eq_true rfl, Nat.le_of_ble_eq_true rfl⟩ (fun H locs hR => ?_)
  obtain ⟨M35, e35⟩ : ∃ y : Mem, y = (sI (sI (sI M 21 6 (-1 : Int32)) 21 7 (-1 : Int32)) 21 8 (-1 : Int32)) := ⟨_, rfl⟩
  rw [← e35] at hR
  have hz : zf M35 26 := by rw [e35]; exact zzX0_init_21 (zf.up hz (by decide))
  refine x_putr (rs1 := [some 1, some 10, some 21, none, none, none, none, none, none, none]) hx hb hown hts hK hR kX10 ⟨rfl, by decide⟩ (j := 2) (by decide) fl_X10_28 (Or.inr ⟨rfl, hin, rfl⟩) rfl rfl rfl (by decide) rfl dX10_init_38 (fun H locs hR => ?_)
  refine lv_aload_n hx hb dX10_init_41 rfl (lv_at hl 0 rfl) ?_
  refine x_new hx hb hown hts hK hR hz kX2 cl_X10_32 is_X2 in_X2 (by decide) (Nat.le_of_ble_eq_true rfl) (Nat.le_of_ble_eq_true rfl) dX10_init_42 (fun H hR => ?_)
  have hR : Rl E _ 27 s.heap M35 H _ := hR
  have hz := zf.up (n1 := 27) hz (by decide)
  refine lv_dup hx hb dX10_init_45 rfl ?_
  refine lv_aload_n hx hb dX10_init_46 rfl (lv_at hl 0 rfl) ?_
  refine x_get hx hb hown hts hK hR kX10 (k := 0) ⟨rfl, by decide⟩ (j := 0) (by decide) fl_X10_12 (v := .ref (eB E + 1)) rfl dX10_init_47 ?_
  refine x_callI (As := [.ref (eB E + 1)]) (rest := [.ref (eB E + 26), .ref (eB E + 0)]) X hR (ctX2_init_26 hz) ml_X10_34 im_X2_init in_X2 co_X2_init yo_X2_init rfl (rm_ok (by decide) (by decide)) rfl hl.1 rfl (Nat.le_of_ble_eq_true rfl) dX10_init_50 ⟨Nat.le_of_ble_eq_true rfl, Nat.le_of_ble_eq_true rfl⟩ (fun H locs hR => ?_)
  obtain ⟨M50, e50⟩ : ∃ y : Mem, y = (sI M35 26 5 (-1 : Int32)) := ⟨_, rfl⟩
  rw [← e50] at hR
  have hz : zf M50 30 := by rw [e50]; exact zzX2_init_26 (zf.up hz (by decide))
  refine x_putr (rs1 := [some 1, some 10, some 21, some 26, none, none, none, none, none, none]) hx hb hown hts hK hR kX10 ⟨rfl, by decide⟩ (j := 3) (by decide) fl_X10_35 (Or.inr ⟨rfl, hin, rfl⟩) rfl rfl rfl (by decide) rfl dX10_init_53 (fun H locs hR => ?_)
  refine lv_aload_n hx hb dX10_init_56 rfl (lv_at hl 0 rfl) ?_
  refine x_new hx hb hown hts hK hR hz kX4 cl_X10_39 is_X4 in_X4 (by decide) (Nat.le_of_ble_eq_true rfl) (Nat.le_of_ble_eq_true rfl) dX10_init_57 (fun H hR => ?_)
  have hR : Rl E _ 31 s.heap M50 H _ := hR
  have hz := zf.up (n1 := 31) hz (by decide)
  refine lv_dup hx hb dX10_init_60 rfl ?_
  refine lv_aload_n hx hb dX10_init_61 rfl (lv_at hl 0 rfl) ?_
  refine x_get hx hb hown hts hK hR kX10 (k := 0) ⟨rfl, by decide⟩ (j := 0) (by decide) fl_X10_12 (v := .ref (eB E + 1)) rfl dX10_init_62 ?_
  refine lv_aload_n hx hb dX10_init_65 rfl (lv_at hl 0 rfl) ?_
  refine x_get hx hb hown hts hK hR kX10 (k := 0) ⟨rfl, by decide⟩ (j := 3) (by decide) fl_X10_35 (v := .ref (eB E + 26)) rfl dX10_init_66 ?_
  refine x_callI (As := [.ref (eB E + 1), .ref (eB E + 26)]) (rest := [.ref (eB E + 30), .ref (eB E + 0)]) X hR (ctX4_init_30 hz) ml_X10_41 im_X4_init in_X4 co_X4_init yo_X4_init rfl (rm_ok (by decide) (by decide)) rfl hl.1 rfl (Nat.le_of_ble_eq_true rfl) dX10_init_69 ⟨Nat.le_of_ble_eq_true rfl, Nat.le_of_ble_eq_true rfl⟩ (fun H locs hR => ?_)
  obtain ⟨M69, e69⟩ : ∃ y : Mem, y = (sI (sI (sI (sI M50 34 (ix (0 : Int32)) (-1 : Int32)) 34 (ix (1 : Int32)) (-1 : Int32)) 34 (ix (2 : Int32)) (-1 : Int32)) 30 7 (-1 : Int32)) := ⟨_, rfl⟩
  rw [← e69] at hR
  have hz : zf M69 35 := by rw [e69]; exact zzX4_init_30 (zf.up hz (by decide))
  refine x_putr (rs1 := [some 1, some 10, some 21, some 26, some 30, none, none, none, none, none]) hx hb hown hts hK hR kX10 ⟨rfl, by decide⟩ (j := 4) (by decide) fl_X10_44 (Or.inr ⟨rfl, hin, rfl⟩) rfl rfl rfl (by decide) rfl dX10_init_72 (fun H locs hR => ?_)
  refine lv_aload_n hx hb dX10_init_75 rfl (lv_at hl 0 rfl) ?_
  refine x_new hx hb hown hts hK hR hz kX7 cl_X10_48 is_X7 in_X7 (by decide) (Nat.le_of_ble_eq_true rfl) (Nat.le_of_ble_eq_true rfl) dX10_init_76 (fun H hR => ?_)
  have hR : Rl E _ 36 s.heap M69 H _ := hR
  have hz := zf.up (n1 := 36) hz (by decide)
  refine lv_dup hx hb dX10_init_79 rfl ?_
  refine lv_aload_n hx hb dX10_init_80 rfl (lv_at hl 0 rfl) ?_
  refine x_get hx hb hown hts hK hR kX10 (k := 0) ⟨rfl, by decide⟩ (j := 3) (by decide) fl_X10_35 (v := .ref (eB E + 26)) rfl dX10_init_81 ?_
  refine x_callI (As := [.ref (eB E + 26)]) (rest := [.ref (eB E + 35), .ref (eB E + 0)]) X hR (ctX7_init_35 hz) ml_X10_50 im_X7_init in_X7 co_X7_init yo_X7_init rfl (rm_ok (by decide) (by decide)) rfl hl.1 rfl (Nat.le_of_ble_eq_true rfl) dX10_init_84 ⟨Nat.le_of_ble_eq_true rfl, Nat.le_of_ble_eq_true rfl⟩ (fun H locs hR => ?_)
  obtain ⟨M84, e84⟩ : ∃ y : Mem, y = (sI (sL M69 35 4 (1 : Int64)) 35 6 (-1 : Int32)) := ⟨_, rfl⟩
  rw [← e84] at hR
  have hz : zf M84 36 := by rw [e84]; exact zzX7_init_35 (zf.up hz (by decide))
  refine x_putr (rs1 := [some 1, some 10, some 21, some 26, some 30, some 35, none, none, none, none]) hx hb hown hts hK hR kX10 ⟨rfl, by decide⟩ (j := 5) (by decide) fl_X10_53 (Or.inr ⟨rfl, hin, rfl⟩) rfl rfl rfl (by decide) rfl dX10_init_87 (fun H locs hR => ?_)
  refine lv_aload_n hx hb dX10_init_90 rfl (lv_at hl 0 rfl) ?_
  refine x_new hx hb hown hts hK hR hz kX3 cl_X10_57 is_X3 in_X3 (by decide) (Nat.le_of_ble_eq_true rfl) (Nat.le_of_ble_eq_true rfl) dX10_init_91 (fun H hR => ?_)
  have hR : Rl E _ 37 s.heap M84 H _ := hR
  have hz := zf.up (n1 := 37) hz (by decide)
  refine lv_dup hx hb dX10_init_94 rfl ?_
  refine lv_aload_n hx hb dX10_init_95 rfl (lv_at hl 0 rfl) ?_
  refine x_get hx hb hown hts hK hR kX10 (k := 0) ⟨rfl, by decide⟩ (j := 2) (by decide) fl_X10_28 (v := .ref (eB E + 21)) rfl dX10_init_96 ?_
  refine x_callI (As := [.ref (eB E + 21)]) (rest := [.ref (eB E + 36), .ref (eB E + 0)]) X hR (ctX3_init_36 hz) ml_X10_59 im_X3_init in_X3 co_X3_init yo_X3_init rfl (rm_ok (by decide) (by decide)) rfl hl.1 rfl (Nat.le_of_ble_eq_true rfl) dX10_init_99 ⟨Nat.le_of_ble_eq_true rfl, Nat.le_of_ble_eq_true rfl⟩ (fun H locs hR => ?_)
  obtain ⟨M99, e99⟩ : ∃ y : Mem, y = (sI (sI (sI M84 36 7 (-1 : Int32)) 36 8 (-1 : Int32)) 36 9 (-1 : Int32)) := ⟨_, rfl⟩
  rw [← e99] at hR
  have hz : zf M99 40 := by rw [e99]; exact zzX3_init_36 (zf.up hz (by decide))
  refine x_putr (rs1 := [some 1, some 10, some 21, some 26, some 30, some 35, none, some 36, none, none]) hx hb hown hts hK hR kX10 ⟨rfl, by decide⟩ (j := 7) (by decide) fl_X10_62 (Or.inr ⟨rfl, hin, rfl⟩) rfl rfl rfl (by decide) rfl dX10_init_102 (fun H locs hR => ?_)
  refine lv_aload_n hx hb dX10_init_105 rfl (lv_at hl 0 rfl) ?_
  refine x_new hx hb hown hts hK hR hz kX9 cl_X10_66 is_X9 in_X9 (by decide) (Nat.le_of_ble_eq_true rfl) (Nat.le_of_ble_eq_true rfl) dX10_init_106 (fun H hR => ?_)
  have hR : Rl E _ 41 s.heap M99 H _ := hR
  have hz := zf.up (n1 := 41) hz (by decide)
  refine lv_dup hx hb dX10_init_109 rfl ?_
  refine lv_aload_n hx hb dX10_init_110 rfl (lv_at hl 0 rfl) ?_
  refine x_get hx hb hown hts hK hR kX10 (k := 0) ⟨rfl, by decide⟩ (j := 2) (by decide) fl_X10_28 (v := .ref (eB E + 21)) rfl dX10_init_111 ?_
  refine x_callI (As := [.ref (eB E + 21)]) (rest := [.ref (eB E + 40), .ref (eB E + 0)]) X hR (ctX9_init_40 (by rfl) hz) ml_X10_68 im_X9_init in_X9 co_X9_init yo_X9_init rfl (rm_ok (by decide) (by decide)) rfl hl.1 rfl (Nat.le_of_ble_eq_true rfl) dX10_init_114 ⟨Nat.le_of_ble_eq_true rfl, Nat.le_of_ble_eq_true rfl⟩ (fun H locs hR => ?_)
  obtain ⟨M114, e114⟩ : ∃ y : Mem, y = (sI (sI (sI (sI (sI M99 40 6 (-1 : Int32)) 40 7 (-1 : Int32)) 40 8 (-1 : Int32)) 40 9 (-1 : Int32)) 40 10 (-1 : Int32)) := ⟨_, rfl⟩
  rw [← e114] at hR
  have hz : zf M114 45 := by rw [e114]; exact zzX9_init_40 (zf.up hz (by decide))
  refine x_putr (rs1 := [some 1, some 10, some 21, some 26, some 30, some 35, none, some 36, some 40, none]) hx hb hown hts hK hR kX10 ⟨rfl, by decide⟩ (j := 8) (by decide) fl_X10_69 (Or.inr ⟨rfl, hin, rfl⟩) rfl rfl rfl (by decide) rfl dX10_init_117 (fun H locs hR => ?_)
  refine lv_aload_n hx hb dX10_init_120 rfl (lv_at hl 0 rfl) ?_
  refine x_new hx hb hown hts hK hR hz kX5 cl_X10_73 is_X5 in_X5 (by decide) (Nat.le_of_ble_eq_true rfl) (Nat.le_of_ble_eq_true rfl) dX10_init_121 (fun H hR => ?_)
  have hR : Rl E _ 46 s.heap M114 H _ := hR
  have hz := zf.up (n1 := 46) hz (by decide)
  refine lv_dup hx hb dX10_init_124 rfl ?_
  refine x_callIN (As := []) (rest := [.ref (eB E + 45), .ref (eB E + 0)]) X hR (ctX5_init_45 hz) (List.mem_of_getElem? (i := 2) rfl) im_X5_init in_X5 co_X5_init yo_X5_init rfl (rm_ok (by decide) (by decide)) rfl hl.1 rfl (Nat.le_of_ble_eq_true rfl) dX10_init_125 ⟨Nat.le_of_ble_eq_true rfl, Nat.le_of_ble_eq_true rfl⟩ (fun H locs hR => ?_)
  have hR : Rl E _ 47 s.heap M114 H _ := hR
  have hz := zf.up (n1 := 47) hz (by decide)
  refine x_putr (rs1 := [some 1, some 10, some 21, some 26, some 30, some 35, none, some 36, some 40, some 45]) hx hb hown hts hK hR kX10 ⟨rfl, by decide⟩ (j := 9) (by decide) fl_X10_76 (Or.inr ⟨rfl, hin, rfl⟩) rfl rfl rfl (by decide) rfl dX10_init_128 (fun H locs hR => ?_)
  exact ct_end hx hb hr hlk hR (by rw [e114, e99, e84, e69, e50, e35]) dX10_init_131
theorem zzX10_init_0 {M : Mem} (h : zf M 47) : zf (sI (sI (sI (sI (sI (sI (sI (sI (sI (sL (sI (sI (sI (sI (sI (sI (sI (sI M 21 6 (-1 : Int32)) 21 7 (-1 : Int32)) 21 8 (-1 : Int32)) 26 5 (-1 : Int32)) 34 (ix (0 : Int32)) (-1 : Int32)) 34 (ix (1 : Int32)) (-1 : Int32)) 34 (ix (2 : Int32)) (-1 : Int32)) 30 7 (-1 : Int32)) 35 4 (1 : Int64)) 35 6 (-1 : Int32)) 36 7 (-1 : Int32)) 36 8 (-1 : Int32)) 36 9 (-1 : Int32)) 40 6 (-1 : Int32)) 40 7 (-1 : Int32)) 40 8 (-1 : Int32)) 40 9 (-1 : Int32)) 40 10 (-1 : Int32)) 47 := (zf_sI (zf_sI (zf_sI (zf_sI (zf_sI (zf_sI (zf_sI (zf_sI (zf_sI (zf_sL (zf_sI (zf_sI (zf_sI (zf_sI (zf_sI (zf_sI (zf_sI (zf_sI h (by decide)) (by decide)) (by decide)) (by decide)) (by decide)) (by decide)) (by decide)) (by decide)) (by decide)) (by decide)) (by decide)) (by decide)) (by decide)) (by decide)) (by decide)) (by decide)) (by decide)) (by decide))
set_option maxHeartbeats 8000000 in
set_option maxRecDepth 100000 in
theorem ctX11_init_47 {l : Launch} {E : Ge} {sh : Nat → Sh} {M : Mem} (hz : zf M 48) : CT l E yX11_init cX11_init 1 none 2 93 38535 [.ref (eB E + 47)] none (shp sh 47 (0, 11, List.replicate 49 none)) 48 M (shp (shg (shp (shp (shp (shp (shp (shp (shp (shg (shp (shp (shp (shp (shp (shp (shp (shp (shp (shp (shp (shp (shp (shp (shp (shp (shp (shp (shp (shp (shp (shp (shp (shp (shp (shp (shp (shp (shp (shp (shp (shp (shp (shp (shp (shg (shp (shg (shp (shg (shp (shg (shp (shg (shp (shg (shp (shg (shp (shg (shp (shp (shp sh 47 (0, 11, List.replicate 49 none)) 48 (3, 600, [])) 47 (0, 11, [some 48, none, none, none, none, none, none, none, none, none, none, none, none, none, none, none, none, none, none, none, none, none, none, none, none, none, none, none, none, none, none, none, none, none, none, none, none, none, none, none, none, none, none, none, none, none, none, none, none])) 49 2 15 5 1) 47 (0, 11, [some 48, none, none, none, none, none, some 49, none, none, none, none, none, none, none, none, none, none, none, none, none, none, none, none, none, none, none, none, none, none, none, none, none, none, none, none, none, none, none, none, none, none, none, none, none, none, none, none, none, none])) 52 2 15 5 1) 47 (0, 11, [some 48, none, none, none, none, none, some 49, some 52, none, none, none, none, none, none, none, none, none, none, none, none, none, none, none, none, none, none, none, none, none, none, none, none, none, none, none, none, none, none, none, none, none, none, none, none, none, none, none, none, none])) 55 2 15 5 1) 47 (0, 11, [some 48, none, none, none, none, none, some 49, some 52, some 55, none, none, none, none, none, none, none, none, none, none, none, none, none, none, none, none, none, none, none, none, none, none, none, none, none, none, none, none, none, none, none, none, none, none, none, none, none, none, none, none])) 58 2 15 5 1) 47 (0, 11, [some 48, none, none, none, none, none, some 49, some 52, some 55, some 58, none, none, none, none, none, none, none, none, none, none, none, none, none, none, none, none, none, none, none, none, none, none, none, none, none, none, none, none, none, none, none, none, none, none, none, none, none, none, none])) 61 2 15 5 1) 47 (0, 11, [some 48, none, none, none, none, none, some 49, some 52, some 55, some 58, some 61, none, none, none, none, none, none, none, none, none, none, none, none, none, none, none, none, none, none, none, none, none, none, none, none, none, none, none, none, none, none, none, none, none, none, none, none, none, none])) 64 2 15 5 1) 47 (0, 11, [some 48, none, none, none, none, none, some 49, some 52, some 55, some 58, some 61, some 64, none, none, none, none, none, none, none, none, none, none, none, none, none, none, none, none, none, none, none, none, none, none, none, none, none, none, none, none, none, none, none, none, none, none, none, none, none])) 67 2 20 5 1) 47 (0, 11, [some 48, none, none, none, none, none, some 49, some 52, some 55, some 58, some 61, some 64, some 67, none, none, none, none, none, none, none, none, none, none, none, none, none, none, none, none, none, none, none, none, none, none, none, none, none, none, none, none, none, none, none, none, none, none, none, none])) 70 2 20 5 1) 47 (0, 11, [some 48, none, none, none, none, none, some 49, some 52, some 55, some 58, some 61, some 64, some 67, some 70, none, none, none, none, none, none, none, none, none, none, none, none, none, none, none, none, none, none, none, none, none, none, none, none, none, none, none, none, none, none, none, none, none, none, none])) 73 (1, 2, [])) 47 (0, 11, [some 48, none, none, none, none, none, some 49, some 52, some 55, some 58, some 61, some 64, some 67, some 70, some 73, none, none, none, none, none, none, none, none, none, none, none, none, none, none, none, none, none, none, none, none, none, none, none, none, none, none, none, none, none, none, none, none, none, none])) 74 (1, 2, [])) 47 (0, 11, [some 48, none, none, none, none, none, some 49, some 52, some 55, some 58, some 61, some 64, some 67, some 70, some 73, some 74, none, none, none, none, none, none, none, none, none, none, none, none, none, none, none, none, none, none, none, none, none, none, none, none, none, none, none, none, none, none, none, none, none])) 75 (1, 2, [])) 47 (0, 11, [some 48, none, none, none, none, none, some 49, some 52, some 55, some 58, some 61, some 64, some 67, some 70, some 73, some 74, some 75, none, none, none, none, none, none, none, none, none, none, none, none, none, none, none, none, none, none, none, none, none, none, none, none, none, none, none, none, none, none, none, none])) 76 (1, 2, [])) 47 (0, 11, [some 48, none, none, none, none, none, some 49, some 52, some 55, some 58, some 61, some 64, some 67, some 70, some 73, some 74, some 75, some 76, none, none, none, none, none, none, none, none, none, none, none, none, none, none, none, none, none, none, none, none, none, none, none, none, none, none, none, none, none, none, none])) 77 (1, 2, [])) 47 (0, 11, [some 48, none, none, none, none, none, some 49, some 52, some 55, some 58, some 61, some 64, some 67, some 70, some 73, some 74, some 75, some 76, some 77, none, none, none, none, none, none, none, none, none, none, none, none, none, none, none, none, none, none, none, none, none, none, none, none, none, none, none, none, none, none])) 78 (7, 4, List.replicate 4 none)) 78 (7, 4, [some 0, none, none, none])) 78 (7, 4, [some 0, some 1, none, none])) 78 (7, 4, [some 0, some 1, some 2, none])) 78 (7, 4, [some 0, some 1, some 2, some 3])) 47 (0, 11, [some 48, none, none, none, none, none, some 49, some 52, some 55, some 58, some 61, some 64, some 67, some 70, some 73, some 74, some 75, some 76, some 77, none, none, none, none, some 78, none, none, none, none, none, none, none, none, none, none, none, none, none, none, none, none, none, none, none, none, none, none, none, none, none])) 79 (1, 105, [])) 47 (0, 11, [some 48, none, none, none, none, none, some 49, some 52, some 55, some 58, some 61, some 64, some 67, some 70, some 73, some 74, some 75, some 76, some 77, none, none, none, none, some 78, some 79, none, none, none, none, none, none, none, none, none, none, none, none, none, none, none, none, none, none, none, none, none, none, none, none])) 80 (1, 105, [])) 47 (0, 11, [some 48, none, none, none, none, none, some 49, some 52, some 55, some 58, some 61, some 64, some 67, some 70, some 73, some 74, some 75, some 76, some 77, none, none, none, none, some 78, some 79, some 80, none, none, none, none, none, none, none, none, none, none, none, none, none, none, none, none, none, none, none, none, none, none, none])) 81 (1, 105, [])) 47 (0, 11, [some 48, none, none, none, none, none, some 49, some 52, some 55, some 58, some 61, some 64, some 67, some 70, some 73, some 74, some 75, some 76, some 77, none, none, none, none, some 78, some 79, some 80, some 81, none, none, none, none, none, none, none, none, none, none, none, none, none, none, none, none, none, none, none, none, none, none])) 82 (2, 5600, [])) 47 (0, 11, [some 48, none, none, none, none, none, some 49, some 52, some 55, some 58, some 61, some 64, some 67, some 70, some 73, some 74, some 75, some 76, some 77, none, none, none, none, some 78, some 79, some 80, some 81, none, none, none, some 82, none, none, none, none, none, none, none, none, none, none, none, none, none, none, none, none, none, none])) 83 (2, 5600, [])) 47 (0, 11, [some 48, none, none, none, none, none, some 49, some 52, some 55, some 58, some 61, some 64, some 67, some 70, some 73, some 74, some 75, some 76, some 77, none, none, none, none, some 78, some 79, some 80, some 81, none, none, none, some 82, some 83, none, none, none, none, none, none, none, none, none, none, none, none, none, none, none, none, none])) 84 (2, 5600, [])) 47 (0, 11, [some 48, none, none, none, none, none, some 49, some 52, some 55, some 58, some 61, some 64, some 67, some 70, some 73, some 74, some 75, some 76, some 77, none, none, none, none, some 78, some 79, some 80, some 81, none, none, none, some 82, some 83, some 84, none, none, none, none, none, none, none, none, none, none, none, none, none, none, none, none])) 85 (1, 10000, [])) 47 (0, 11, [some 48, none, none, none, none, none, some 49, some 52, some 55, some 58, some 61, some 64, some 67, some 70, some 73, some 74, some 75, some 76, some 77, none, none, none, none, some 78, some 79, some 80, some 81, none, none, none, some 82, some 83, some 84, none, none, some 85, none, none, none, none, none, none, none, none, none, none, none, none, none])) 86 (1, 10000, [])) 47 (0, 11, [some 48, none, none, none, none, none, some 49, some 52, some 55, some 58, some 61, some 64, some 67, some 70, some 73, some 74, some 75, some 76, some 77, none, none, none, none, some 78, some 79, some 80, some 81, none, none, none, some 82, some 83, some 84, none, none, some 85, some 86, none, none, none, none, none, none, none, none, none, none, none, none])) 87 (1, 20, [])) 47 (0, 11, [some 48, none, none, none, none, none, some 49, some 52, some 55, some 58, some 61, some 64, some 67, some 70, some 73, some 74, some 75, some 76, some 77, none, none, none, none, some 78, some 79, some 80, some 81, none, none, none, some 82, some 83, some 84, none, none, some 85, some 86, none, none, some 87, none, none, none, none, none, none, none, none, none])) 88 8 8 6 2) 47 (0, 11, [some 48, none, none, none, none, none, some 49, some 52, some 55, some 58, some 61, some 64, some 67, some 70, some 73, some 74, some 75, some 76, some 77, none, none, none, none, some 78, some 79, some 80, some 81, none, none, none, some 82, some 83, some 84, none, none, some 85, some 86, none, none, some 87, some 88, none, none, none, none, none, none, none, none])) 97 (2, 8, [])) 47 (0, 11, [some 48, none, none, none, none, none, some 49, some 52, some 55, some 58, some 61, some 64, some 67, some 70, some 73, some 74, some 75, some 76, some 77, none, none, none, none, some 78, some 79, some 80, some 81, none, none, none, some 82, some 83, some 84, none, none, some 85, some 86, none, none, some 87, some 88, some 97, none, none, none, none, none, none, none])) 98 (1, 15, [])) 47 (0, 11, [some 48, none, none, none, none, none, some 49, some 52, some 55, some 58, some 61, some 64, some 67, some 70, some 73, some 74, some 75, some 76, some 77, none, none, none, none, some 78, some 79, some 80, some 81, none, none, none, some 82, some 83, some 84, none, none, some 85, some 86, none, none, some 87, some 88, some 97, some 98, none, none, none, none, none, none])) 99 (1, 15, [])) 47 (0, 11, [some 48, none, none, none, none, none, some 49, some 52, some 55, some 58, some 61, some 64, some 67, some 70, some 73, some 74, some 75, some 76, some 77, none, none, none, none, some 78, some 79, some 80, some 81, none, none, none, some 82, some 83, some 84, none, none, some 85, some 86, none, none, some 87, some 88, some 97, some 98, some 99, none, none, none, none, none])) 100 40 9 5 1) 47 (0, 11, [some 48, none, none, none, none, none, some 49, some 52, some 55, some 58, some 61, some 64, some 67, some 70, some 73, some 74, some 75, some 76, some 77, none, none, none, none, some 78, some 79, some 80, some 81, none, none, none, some 82, some 83, some 84, none, none, some 85, some 86, none, none, some 87, some 88, some 97, some 98, some 99, none, none, none, some 100, none])) 141 M := by
  refine met_of (by decide) (Nat.le_of_ble_eq_true rfl) ?_
  intro p e s m args below meth c X hi hR ls hl
  obtain ⟨hx, hb, hr, hml, hown, hts, hK, hN, hO, hlk, hbs⟩ := id X
  have hin := hi rfl
  refine lv_aload_n hx hb dX11_init_0 rfl (lv_at hl 0 rfl) ?_
  refine W.objInit hx hb hown (hts _ ml_X11_1) (hts _ im_obj) (hts _ co_obj) rfl (by rw [hml]; exact hl.1) rfl dX11_init_1 (Nat.le_of_ble_eq_true rfl) (Nat.le_of_ble_eq_true rfl) ?_
  refine W.eq (g2 := F0 m 4 ls []) rfl ?_
  refine lv_aload_n hx hb dX11_init_4 rfl (lv_at hl 0 rfl) ?_
  refine lv_sipush (v := 600) hx hb dX11_init_5 (by decide) ?_
  refine x_newaB (len := 600) hx hb hts hK hR hz (by decide) (by decide) (Nat.le_of_ble_eq_true rfl) (Nat.le_of_ble_eq_true rfl) (Nat.le_of_ble_eq_true rfl) dX11_init_8 (fun H hR => ?_)
  have hR : Rl E _ 49 s.heap M H _ := hR
  have hz := zf.up (n1 := 49) hz (by decide)
  refine x_putr (rs1 := [some 48, none, none, none, none, none, none, none, none, none, none, none, none, none, none, none, none, none, none, none, none, none, none, none, none, none, none, none, none, none, none, none, none, none, none, none, none, none, none, none, none, none, none, none, none, none, none, none, none]) hx hb hown hts hK hR kX11 ⟨rfl, by decide⟩ (j := 0) (by decide) fl_X11_9 (Or.inr ⟨rfl, hin, rfl⟩) rfl rfl rfl (by decide) rfl dX11_init_10 (fun H locs hR => ?_)
  refine lv_aload_n hx hb dX11_init_13 rfl (lv_at hl 0 rfl) ?_
  refine lv_iconst (v := 2) hx hb dX11_init_14 (by decide) ?_
  refine lv_bipush (v := 15) hx hb dX11_init_15 (by decide) ?_
  refine x_mnaI (N := 2) (K := 15) hx hb hown hts hK hN hR hz cl_X11_13 (by decide) (by decide) (by decide) (by decide) (Nat.le_of_ble_eq_true rfl) (Nat.le_of_ble_eq_true rfl) (Nat.le_of_ble_eq_true rfl) (Nat.le_of_ble_eq_true rfl) (Nat.le_of_ble_eq_true rfl) dX11_init_17 (fun H hR => ?_)
  have hR : Rl E _ 52 s.heap M H _ := hR
  have hz := zf.up (n1 := 52) hz (by decide)
  refine x_putr (rs1 := [some 48, none, none, none, none, none, some 49, none, none, none, none, none, none, none, none, none, none, none, none, none, none, none, none, none, none, none, none, none, none, none, none, none, none, none, none, none, none, none, none, none, none, none, none, none, none, none, none, none, none]) hx hb hown hts hK hR kX11 ⟨rfl, by decide⟩ (j := 6) (by decide) fl_X11_15 (Or.inr ⟨rfl, hin, rfl⟩) rfl rfl rfl (by decide) rfl dX11_init_21 (fun H locs hR => ?_)
  refine lv_aload_n hx hb dX11_init_24 rfl (lv_at hl 0 rfl) ?_
  refine lv_iconst (v := 2) hx hb dX11_init_25 (by decide) ?_
  refine lv_bipush (v := 15) hx hb dX11_init_26 (by decide) ?_
  refine x_mnaI (N := 2) (K := 15) hx hb hown hts hK hN hR hz cl_X11_13 (by decide) (by decide) (by decide) (by decide) (Nat.le_of_ble_eq_true rfl) (Nat.le_of_ble_eq_true rfl) (Nat.le_of_ble_eq_true rfl) (Nat.le_of_ble_eq_true rfl) (Nat.le_of_ble_eq_true rfl) dX11_init_28 (fun H hR => ?_)
  have hR : Rl E _ 55 s.heap M H _ := hR
  have hz := zf.up (n1 := 55) hz (by decide)
  refine x_putr (rs1 := [some 48, none, none, none, none, none, some 49, some 52, none, none, none, none, none, none, none, none, none, none, none, none, none, none, none, none, none, none, none, none, none, none, none, none, none, none, none, none, none, none, none, none, none, none, none, none, none, none, none, none, none]) hx hb hown hts hK hR kX11 ⟨rfl, by decide⟩ (j := 7) (by decide) fl_X11_18 (Or.inr ⟨rfl, hin, rfl⟩) rfl rfl rfl (by decide) rfl dX11_init_32 (fun H locs hR => ?_)
  refine lv_aload_n hx hb dX11_init_35 rfl (lv_at hl 0 rfl) ?_
  refine lv_iconst (v := 2) hx hb dX11_init_36 (by decide) ?_
  refine lv_bipush (v := 15) hx hb dX11_init_37 (by decide) ?_
  refine x_mnaI (N := 2) (K := 15) hx hb hown hts hK hN hR hz cl_X11_13 (by decide) (by decide) (by decide) (by decide) (Nat.le_of_ble_eq_true rfl) (Nat.le_of_ble_eq_true rfl) (Nat.le_of_ble_eq_true rfl) (Nat.le_of_ble_eq_true rfl) (Nat.le_of_ble_eq_true rfl) dX11_init_39 (fun H hR => ?_)
  have hR : Rl E _ 58 s.heap M H _ := hR
  have hz := zf.up (n1 := 58) hz (by decide)
  refine x_putr (rs1 := [some 48, none, none, none, none, none, some 49, some 52, some 55, none, none, none, none, none, none, none, none, none, none, none, none, none, none, none, none, none, none, none, none, none, none, none, none, none, none, none, none, none, none, none, none, none, none, none, none, none, none, none, none]) hx hb hown hts hK hR kX11 ⟨rfl, by decide⟩ (j := 8) (by decide) fl_X11_21 (Or.inr ⟨rfl, hin, rfl⟩) rfl rfl rfl (by decide) rfl dX11_init_43 (fun H locs hR => ?_)
  refine lv_aload_n hx hb dX11_init_46 rfl (lv_at hl 0 rfl) ?_
  refine lv_iconst (v := 2) hx hb dX11_init_47 (by decide) ?_
  refine lv_bipush (v := 15) hx hb dX11_init_48 (by decide) ?_
  refine x_mnaI (N := 2) (K := 15) hx hb hown hts hK hN hR hz cl_X11_13 (by decide) (by decide) (by decide) (by decide) (Nat.le_of_ble_eq_true rfl) (Nat.le_of_ble_eq_true rfl) (Nat.le_of_ble_eq_true rfl) (Nat.le_of_ble_eq_true rfl) (Nat.le_of_ble_eq_true rfl) dX11_init_50 (fun H hR => ?_)
  have hR : Rl E _ 61 s.heap M H _ := hR
  have hz := zf.up (n1 := 61) hz (by decide)
  refine x_putr (rs1 := [some 48, none, none, none, none, none, some 49, some 52, some 55, some 58, none, none, none, none, none, none, none, none, none, none, none, none, none, none, none, none, none, none, none, none, none, none, none, none, none, none, none, none, none, none, none, none, none, none, none, none, none, none, none]) hx hb hown hts hK hR kX11 ⟨rfl, by decide⟩ (j := 9) (by decide) fl_X11_24 (Or.inr ⟨rfl, hin, rfl⟩) rfl rfl rfl (by decide) rfl dX11_init_54 (fun H locs hR => ?_)
  refine lv_aload_n hx hb dX11_init_57 rfl (lv_at hl 0 rfl) ?_
  refine lv_iconst (v := 2) hx hb dX11_init_58 (by decide) ?_
  refine lv_bipush (v := 15) hx hb dX11_init_59 (by decide) ?_
  refine x_mnaI (N := 2) (K := 15) hx hb hown hts hK hN hR hz cl_X11_13 (by decide) (by decide) (by decide) (by decide) (Nat.le_of_ble_eq_true rfl) (Nat.le_of_ble_eq_true rfl) (Nat.le_of_ble_eq_true rfl) (Nat.le_of_ble_eq_true rfl) (Nat.le_of_ble_eq_true rfl) dX11_init_61 (fun H hR => ?_)
  have hR : Rl E _ 64 s.heap M H _ := hR
  have hz := zf.up (n1 := 64) hz (by decide)
  refine x_putr (rs1 := [some 48, none, none, none, none, none, some 49, some 52, some 55, some 58, some 61, none, none, none, none, none, none, none, none, none, none, none, none, none, none, none, none, none, none, none, none, none, none, none, none, none, none, none, none, none, none, none, none, none, none, none, none, none, none]) hx hb hown hts hK hR kX11 ⟨rfl, by decide⟩ (j := 10) (by decide) fl_X11_27 (Or.inr ⟨rfl, hin, rfl⟩) rfl rfl rfl (by decide) rfl dX11_init_65 (fun H locs hR => ?_)
  refine lv_aload_n hx hb dX11_init_68 rfl (lv_at hl 0 rfl) ?_
  refine lv_iconst (v := 2) hx hb dX11_init_69 (by decide) ?_
  refine lv_bipush (v := 15) hx hb dX11_init_70 (by decide) ?_
  refine x_mnaI (N := 2) (K := 15) hx hb hown hts hK hN hR hz cl_X11_13 (by decide) (by decide) (by decide) (by decide) (Nat.le_of_ble_eq_true rfl) (Nat.le_of_ble_eq_true rfl) (Nat.le_of_ble_eq_true rfl) (Nat.le_of_ble_eq_true rfl) (Nat.le_of_ble_eq_true rfl) dX11_init_72 (fun H hR => ?_)
  have hR : Rl E _ 67 s.heap M H _ := hR
  have hz := zf.up (n1 := 67) hz (by decide)
  refine x_putr (rs1 := [some 48, none, none, none, none, none, some 49, some 52, some 55, some 58, some 61, some 64, none, none, none, none, none, none, none, none, none, none, none, none, none, none, none, none, none, none, none, none, none, none, none, none, none, none, none, none, none, none, none, none, none, none, none, none, none]) hx hb hown hts hK hR kX11 ⟨rfl, by decide⟩ (j := 11) (by decide) fl_X11_30 (Or.inr ⟨rfl, hin, rfl⟩) rfl rfl rfl (by decide) rfl dX11_init_76 (fun H locs hR => ?_)
  refine lv_aload_n hx hb dX11_init_79 rfl (lv_at hl 0 rfl) ?_
  refine lv_iconst (v := 2) hx hb dX11_init_80 (by decide) ?_
  refine lv_bipush (v := 20) hx hb dX11_init_81 (by decide) ?_
  refine x_mnaI (N := 2) (K := 20) hx hb hown hts hK hN hR hz cl_X11_13 (by decide) (by decide) (by decide) (by decide) (Nat.le_of_ble_eq_true rfl) (Nat.le_of_ble_eq_true rfl) (Nat.le_of_ble_eq_true rfl) (Nat.le_of_ble_eq_true rfl) (Nat.le_of_ble_eq_true rfl) dX11_init_83 (fun H hR => ?_)
  have hR : Rl E _ 70 s.heap M H _ := hR
  have hz := zf.up (n1 := 70) hz (by decide)
  refine x_putr (rs1 := [some 48, none, none, none, none, none, some 49, some 52, some 55, some 58, some 61, some 64, some 67, none, none, none, none, none, none, none, none, none, none, none, none, none, none, none, none, none, none, none, none, none, none, none, none, none, none, none, none, none, none, none, none, none, none, none, none]) hx hb hown hts hK hR kX11 ⟨rfl, by decide⟩ (j := 12) (by decide) fl_X11_33 (Or.inr ⟨rfl, hin, rfl⟩) rfl rfl rfl (by decide) rfl dX11_init_87 (fun H locs hR => ?_)
  refine lv_aload_n hx hb dX11_init_90 rfl (lv_at hl 0 rfl) ?_
  refine lv_iconst (v := 2) hx hb dX11_init_91 (by decide) ?_
  refine lv_bipush (v := 20) hx hb dX11_init_92 (by decide) ?_
  refine x_mnaI (N := 2) (K := 20) hx hb hown hts hK hN hR hz cl_X11_13 (by decide) (by decide) (by decide) (by decide) (Nat.le_of_ble_eq_true rfl) (Nat.le_of_ble_eq_true rfl) (Nat.le_of_ble_eq_true rfl) (Nat.le_of_ble_eq_true rfl) (Nat.le_of_ble_eq_true rfl) dX11_init_94 (fun H hR => ?_)
  have hR : Rl E _ 73 s.heap M H _ := hR
  have hz := zf.up (n1 := 73) hz (by decide)
  refine x_putr (rs1 := [some 48, none, none, none, none, none, some 49, some 52, some 55, some 58, some 61, some 64, some 67, some 70, none, none, none, none, none, none, none, none, none, none, none, none, none, none, none, none, none, none, none, none, none, none, none, none, none, none, none, none, none, none, none, none, none, none, none]) hx hb hown hts hK hR kX11 ⟨rfl, by decide⟩ (j := 13) (by decide) fl_X11_36 (Or.inr ⟨rfl, hin, rfl⟩) rfl rfl rfl (by decide) rfl dX11_init_98 (fun H locs hR => ?_)
  refine lv_aload_n hx hb dX11_init_101 rfl (lv_at hl 0 rfl) ?_
  refine lv_iconst (v := 2) hx hb dX11_init_102 (by decide) ?_
  refine x_newaI (len := 2) hx hb hts hK hR hz (by decide) (by decide) (Nat.le_of_ble_eq_true rfl) (Nat.le_of_ble_eq_true rfl) (Nat.le_of_ble_eq_true rfl) dX11_init_103 (fun H hR => ?_)
  have hR : Rl E _ 74 s.heap M H _ := hR
  have hz := zf.up (n1 := 74) hz (by decide)
  refine x_putr (rs1 := [some 48, none, none, none, none, none, some 49, some 52, some 55, some 58, some 61, some 64, some 67, some 70, some 73, none, none, none, none, none, none, none, none, none, none, none, none, none, none, none, none, none, none, none, none, none, none, none, none, none, none, none, none, none, none, none, none, none, none]) hx hb hown hts hK hR kX11 ⟨rfl, by decide⟩ (j := 14) (by decide) fl_X11_39 (Or.inr ⟨rfl, hin, rfl⟩) rfl rfl rfl (by decide) rfl dX11_init_105 (fun H locs hR => ?_)
  refine lv_aload_n hx hb dX11_init_108 rfl (lv_at hl 0 rfl) ?_
  refine lv_iconst (v := 2) hx hb dX11_init_109 (by decide) ?_
  refine x_newaI (len := 2) hx hb hts hK hR hz (by decide) (by decide) (Nat.le_of_ble_eq_true rfl) (Nat.le_of_ble_eq_true rfl) (Nat.le_of_ble_eq_true rfl) dX11_init_110 (fun H hR => ?_)
  have hR : Rl E _ 75 s.heap M H _ := hR
  have hz := zf.up (n1 := 75) hz (by decide)
  refine x_putr (rs1 := [some 48, none, none, none, none, none, some 49, some 52, some 55, some 58, some 61, some 64, some 67, some 70, some 73, some 74, none, none, none, none, none, none, none, none, none, none, none, none, none, none, none, none, none, none, none, none, none, none, none, none, none, none, none, none, none, none, none, none, none]) hx hb hown hts hK hR kX11 ⟨rfl, by decide⟩ (j := 15) (by decide) fl_X11_43 (Or.inr ⟨rfl, hin, rfl⟩) rfl rfl rfl (by decide) rfl dX11_init_112 (fun H locs hR => ?_)
  refine lv_aload_n hx hb dX11_init_115 rfl (lv_at hl 0 rfl) ?_
  refine lv_iconst (v := 2) hx hb dX11_init_116 (by decide) ?_
  refine x_newaI (len := 2) hx hb hts hK hR hz (by decide) (by decide) (Nat.le_of_ble_eq_true rfl) (Nat.le_of_ble_eq_true rfl) (Nat.le_of_ble_eq_true rfl) dX11_init_117 (fun H hR => ?_)
  have hR : Rl E _ 76 s.heap M H _ := hR
  have hz := zf.up (n1 := 76) hz (by decide)
  refine x_putr (rs1 := [some 48, none, none, none, none, none, some 49, some 52, some 55, some 58, some 61, some 64, some 67, some 70, some 73, some 74, some 75, none, none, none, none, none, none, none, none, none, none, none, none, none, none, none, none, none, none, none, none, none, none, none, none, none, none, none, none, none, none, none, none]) hx hb hown hts hK hR kX11 ⟨rfl, by decide⟩ (j := 16) (by decide) fl_X11_46 (Or.inr ⟨rfl, hin, rfl⟩) rfl rfl rfl (by decide) rfl dX11_init_119 (fun H locs hR => ?_)
  refine lv_aload_n hx hb dX11_init_122 rfl (lv_at hl 0 rfl) ?_
  refine lv_iconst (v := 2) hx hb dX11_init_123 (by decide) ?_
  refine x_newaI (len := 2) hx hb hts hK hR hz (by decide) (by decide) (Nat.le_of_ble_eq_true rfl) (Nat.le_of_ble_eq_true rfl) (Nat.le_of_ble_eq_true rfl) dX11_init_124 (fun H hR => ?_)
  have hR : Rl E _ 77 s.heap M H _ := hR
  have hz := zf.up (n1 := 77) hz (by decide)
  refine x_putr (rs1 := [some 48, none, none, none, none, none, some 49, some 52, some 55, some 58, some 61, some 64, some 67, some 70, some 73, some 74, some 75, some 76, none, none, none, none, none, none, none, none, none, none, none, none, none, none, none, none, none, none, none, none, none, none, none, none, none, none, none, none, none, none, none]) hx hb hown hts hK hR kX11 ⟨rfl, by decide⟩ (j := 17) (by decide) fl_X11_49 (Or.inr ⟨rfl, hin, rfl⟩) rfl rfl rfl (by decide) rfl dX11_init_126 (fun H locs hR => ?_)
  refine lv_aload_n hx hb dX11_init_129 rfl (lv_at hl 0 rfl) ?_
  refine lv_iconst (v := 2) hx hb dX11_init_130 (by decide) ?_
  refine x_newaI (len := 2) hx hb hts hK hR hz (by decide) (by decide) (Nat.le_of_ble_eq_true rfl) (Nat.le_of_ble_eq_true rfl) (Nat.le_of_ble_eq_true rfl) dX11_init_131 (fun H hR => ?_)
  have hR : Rl E _ 78 s.heap M H _ := hR
  have hz := zf.up (n1 := 78) hz (by decide)
  refine x_putr (rs1 := [some 48, none, none, none, none, none, some 49, some 52, some 55, some 58, some 61, some 64, some 67, some 70, some 73, some 74, some 75, some 76, some 77, none, none, none, none, none, none, none, none, none, none, none, none, none, none, none, none, none, none, none, none, none, none, none, none, none, none, none, none, none, none]) hx hb hown hts hK hR kX11 ⟨rfl, by decide⟩ (j := 18) (by decide) fl_X11_52 (Or.inr ⟨rfl, hin, rfl⟩) rfl rfl rfl (by decide) rfl dX11_init_133 (fun H locs hR => ?_)
  refine lv_aload_n hx hb dX11_init_136 rfl (lv_at hl 0 rfl) ?_
  refine lv_iconst (v := 4) hx hb dX11_init_137 (by decide) ?_
  refine x_anew (len := 4) hx hb hown hts hK hN hR cl_X11_55 (by decide) (by decide) (Nat.le_of_ble_eq_true rfl) (Nat.le_of_ble_eq_true rfl) (Nat.le_of_ble_eq_true rfl) dX11_init_138 (fun H hR => ?_)
  have hR : Rl E _ 79 s.heap M H _ := hR
  have hz := zf.up (n1 := 79) hz (by decide)
  refine lv_dup hx hb dX11_init_141 rfl ?_
  refine lv_iconst (v := 0) hx hb dX11_init_142 (by decide) ?_
  refine va_ldcS hx hb hown (hN.1 0 (by decide)) dX11_init_143 ?_
  refine x_aast (rs1 := [some 0, none, none, none]) hx hb hK hO hR ⟨rfl, by decide⟩ rfl (by decide) (by decide) rfl dX11_init_145 (fun H locs hR => ?_)
  refine lv_dup hx hb dX11_init_146 rfl ?_
  refine lv_iconst (v := 1) hx hb dX11_init_147 (by decide) ?_
  refine va_ldcS hx hb hown (hN.1 1 (by decide)) dX11_init_148 ?_
  refine x_aast (rs1 := [some 0, some 1, none, none]) hx hb hK hO hR ⟨rfl, by decide⟩ rfl (by decide) (by decide) rfl dX11_init_150 (fun H locs hR => ?_)
  refine lv_dup hx hb dX11_init_151 rfl ?_
  refine lv_iconst (v := 2) hx hb dX11_init_152 (by decide) ?_
  refine va_ldcS hx hb hown (hN.1 2 (by decide)) dX11_init_153 ?_
  refine x_aast (rs1 := [some 0, some 1, some 2, none]) hx hb hK hO hR ⟨rfl, by decide⟩ rfl (by decide) (by decide) rfl dX11_init_155 (fun H locs hR => ?_)
  refine lv_dup hx hb dX11_init_156 rfl ?_
  refine lv_iconst (v := 3) hx hb dX11_init_157 (by decide) ?_
  refine va_ldcS hx hb hown (hN.1 3 (by decide)) dX11_init_158 ?_
  refine x_aast (rs1 := [some 0, some 1, some 2, some 3]) hx hb hK hO hR ⟨rfl, by decide⟩ rfl (by decide) (by decide) rfl dX11_init_160 (fun H locs hR => ?_)
  refine x_putr (rs1 := [some 48, none, none, none, none, none, some 49, some 52, some 55, some 58, some 61, some 64, some 67, some 70, some 73, some 74, some 75, some 76, some 77, none, none, none, none, some 78, none, none, none, none, none, none, none, none, none, none, none, none, none, none, none, none, none, none, none, none, none, none, none, none, none]) hx hb hown hts hK hR kX11 ⟨rfl, by decide⟩ (j := 23) (by decide) fl_X11_65 (Or.inr ⟨rfl, hin, rfl⟩) rfl rfl rfl (by decide) rfl dX11_init_161 (fun H locs hR => ?_)
  refine lv_aload_n hx hb dX11_init_164 rfl (lv_at hl 0 rfl) ?_
  refine lv_bipush (v := 105) hx hb dX11_init_165 (by decide) ?_
  refine x_newaI (len := 105) hx hb hts hK hR hz (by decide) (by decide) (Nat.le_of_ble_eq_true rfl) (Nat.le_of_ble_eq_true rfl) (Nat.le_of_ble_eq_true rfl) dX11_init_167 (fun H hR => ?_)
  have hR : Rl E _ 80 s.heap M H _ := hR
  have hz := zf.up (n1 := 80) hz (by decide)
  refine x_putr (rs1 := [some 48, none, none, none, none, none, some 49, some 52, some 55, some 58, some 61, some 64, some 67, some 70, some 73, some 74, some 75, some 76, some 77, none, none, none, none, some 78, some 79, none, none, none, none, none, none, none, none, none, none, none, none, none, none, none, none, none, none, none, none, none, none, none, none]) hx hb hown hts hK hR kX11 ⟨rfl, by decide⟩ (j := 24) (by decide) fl_X11_69 (Or.inr ⟨rfl, hin, rfl⟩) rfl rfl rfl (by decide) rfl dX11_init_169 (fun H locs hR => ?_)
  refine lv_aload_n hx hb dX11_init_172 rfl (lv_at hl 0 rfl) ?_
  refine lv_bipush (v := 105) hx hb dX11_init_173 (by decide) ?_
  refine x_newaI (len := 105) hx hb hts hK hR hz (by decide) (by decide) (Nat.le_of_ble_eq_true rfl) (Nat.le_of_ble_eq_true rfl) (Nat.le_of_ble_eq_true rfl) dX11_init_175 (fun H hR => ?_)
  have hR : Rl E _ 81 s.heap M H _ := hR
  have hz := zf.up (n1 := 81) hz (by decide)
  refine x_putr (rs1 := [some 48, none, none, none, none, none, some 49, some 52, some 55, some 58, some 61, some 64, some 67, some 70, some 73, some 74, some 75, some 76, some 77, none, none, none, none, some 78, some 79, some 80, none, none, none, none, none, none, none, none, none, none, none, none, none, none, none, none, none, none, none, none, none, none, none]) hx hb hown hts hK hR kX11 ⟨rfl, by decide⟩ (j := 25) (by decide) fl_X11_72 (Or.inr ⟨rfl, hin, rfl⟩) rfl rfl rfl (by decide) rfl dX11_init_177 (fun H locs hR => ?_)
  refine lv_aload_n hx hb dX11_init_180 rfl (lv_at hl 0 rfl) ?_
  refine lv_bipush (v := 105) hx hb dX11_init_181 (by decide) ?_
  refine x_newaI (len := 105) hx hb hts hK hR hz (by decide) (by decide) (Nat.le_of_ble_eq_true rfl) (Nat.le_of_ble_eq_true rfl) (Nat.le_of_ble_eq_true rfl) dX11_init_183 (fun H hR => ?_)
  have hR : Rl E _ 82 s.heap M H _ := hR
  have hz := zf.up (n1 := 82) hz (by decide)
  refine x_putr (rs1 := [some 48, none, none, none, none, none, some 49, some 52, some 55, some 58, some 61, some 64, some 67, some 70, some 73, some 74, some 75, some 76, some 77, none, none, none, none, some 78, some 79, some 80, some 81, none, none, none, none, none, none, none, none, none, none, none, none, none, none, none, none, none, none, none, none, none, none]) hx hb hown hts hK hR kX11 ⟨rfl, by decide⟩ (j := 26) (by decide) fl_X11_75 (Or.inr ⟨rfl, hin, rfl⟩) rfl rfl rfl (by decide) rfl dX11_init_185 (fun H locs hR => ?_)
  refine lv_aload_n hx hb dX11_init_188 rfl (lv_at hl 0 rfl) ?_
  refine lv_sipush (v := 5600) hx hb dX11_init_189 (by decide) ?_
  refine x_newaJ (len := 5600) hx hb hts hK hR hz (by decide) (by decide) (Nat.le_of_ble_eq_true rfl) (Nat.le_of_ble_eq_true rfl) (Nat.le_of_ble_eq_true rfl) dX11_init_192 (fun H hR => ?_)
  have hR : Rl E _ 83 s.heap M H _ := hR
  have hz := zf.up (n1 := 83) hz (by decide)
  refine x_putr (rs1 := [some 48, none, none, none, none, none, some 49, some 52, some 55, some 58, some 61, some 64, some 67, some 70, some 73, some 74, some 75, some 76, some 77, none, none, none, none, some 78, some 79, some 80, some 81, none, none, none, some 82, none, none, none, none, none, none, none, none, none, none, none, none, none, none, none, none, none, none]) hx hb hown hts hK hR kX11 ⟨rfl, by decide⟩ (j := 30) (by decide) fl_X11_78 (Or.inr ⟨rfl, hin, rfl⟩) rfl rfl rfl (by decide) rfl dX11_init_194 (fun H locs hR => ?_)
  refine lv_aload_n hx hb dX11_init_197 rfl (lv_at hl 0 rfl) ?_
  refine lv_sipush (v := 5600) hx hb dX11_init_198 (by decide) ?_
  refine x_newaJ (len := 5600) hx hb hts hK hR hz (by decide) (by decide) (Nat.le_of_ble_eq_true rfl) (Nat.le_of_ble_eq_true rfl) (Nat.le_of_ble_eq_true rfl) dX11_init_201 (fun H hR => ?_)
  have hR : Rl E _ 84 s.heap M H _ := hR
  have hz := zf.up (n1 := 84) hz (by decide)
  refine x_putr (rs1 := [some 48, none, none, none, none, none, some 49, some 52, some 55, some 58, some 61, some 64, some 67, some 70, some 73, some 74, some 75, some 76, some 77, none, none, none, none, some 78, some 79, some 80, some 81, none, none, none, some 82, some 83, none, none, none, none, none, none, none, none, none, none, none, none, none, none, none, none, none]) hx hb hown hts hK hR kX11 ⟨rfl, by decide⟩ (j := 31) (by decide) fl_X11_82 (Or.inr ⟨rfl, hin, rfl⟩) rfl rfl rfl (by decide) rfl dX11_init_203 (fun H locs hR => ?_)
  refine lv_aload_n hx hb dX11_init_206 rfl (lv_at hl 0 rfl) ?_
  refine lv_sipush (v := 5600) hx hb dX11_init_207 (by decide) ?_
  refine x_newaJ (len := 5600) hx hb hts hK hR hz (by decide) (by decide) (Nat.le_of_ble_eq_true rfl) (Nat.le_of_ble_eq_true rfl) (Nat.le_of_ble_eq_true rfl) dX11_init_210 (fun H hR => ?_)
  have hR : Rl E _ 85 s.heap M H _ := hR
  have hz := zf.up (n1 := 85) hz (by decide)
  refine x_putr (rs1 := [some 48, none, none, none, none, none, some 49, some 52, some 55, some 58, some 61, some 64, some 67, some 70, some 73, some 74, some 75, some 76, some 77, none, none, none, none, some 78, some 79, some 80, some 81, none, none, none, some 82, some 83, some 84, none, none, none, none, none, none, none, none, none, none, none, none, none, none, none, none]) hx hb hown hts hK hR kX11 ⟨rfl, by decide⟩ (j := 32) (by decide) fl_X11_85 (Or.inr ⟨rfl, hin, rfl⟩) rfl rfl rfl (by decide) rfl dX11_init_212 (fun H locs hR => ?_)
  refine lv_aload_n hx hb dX11_init_215 rfl (lv_at hl 0 rfl) ?_
  refine lv_sipush (v := 10000) hx hb dX11_init_216 (by decide) ?_
  refine x_newaI (len := 10000) hx hb hts hK hR hz (by decide) (by decide) (Nat.le_of_ble_eq_true rfl) (Nat.le_of_ble_eq_true rfl) (Nat.le_of_ble_eq_true rfl) dX11_init_219 (fun H hR => ?_)
  have hR : Rl E _ 86 s.heap M H _ := hR
  have hz := zf.up (n1 := 86) hz (by decide)
  refine x_putr (rs1 := [some 48, none, none, none, none, none, some 49, some 52, some 55, some 58, some 61, some 64, some 67, some 70, some 73, some 74, some 75, some 76, some 77, none, none, none, none, some 78, some 79, some 80, some 81, none, none, none, some 82, some 83, some 84, none, none, some 85, none, none, none, none, none, none, none, none, none, none, none, none, none]) hx hb hown hts hK hR kX11 ⟨rfl, by decide⟩ (j := 35) (by decide) fl_X11_88 (Or.inr ⟨rfl, hin, rfl⟩) rfl rfl rfl (by decide) rfl dX11_init_221 (fun H locs hR => ?_)
  refine lv_aload_n hx hb dX11_init_224 rfl (lv_at hl 0 rfl) ?_
  refine lv_sipush (v := 10000) hx hb dX11_init_225 (by decide) ?_
  refine x_newaI (len := 10000) hx hb hts hK hR hz (by decide) (by decide) (Nat.le_of_ble_eq_true rfl) (Nat.le_of_ble_eq_true rfl) (Nat.le_of_ble_eq_true rfl) dX11_init_228 (fun H hR => ?_)
  have hR : Rl E _ 87 s.heap M H _ := hR
  have hz := zf.up (n1 := 87) hz (by decide)
  refine x_putr (rs1 := [some 48, none, none, none, none, none, some 49, some 52, some 55, some 58, some 61, some 64, some 67, some 70, some 73, some 74, some 75, some 76, some 77, none, none, none, none, some 78, some 79, some 80, some 81, none, none, none, some 82, some 83, some 84, none, none, some 85, some 86, none, none, none, none, none, none, none, none, none, none, none, none]) hx hb hown hts hK hR kX11 ⟨rfl, by decide⟩ (j := 36) (by decide) fl_X11_91 (Or.inr ⟨rfl, hin, rfl⟩) rfl rfl rfl (by decide) rfl dX11_init_230 (fun H locs hR => ?_)
  refine lv_aload_n hx hb dX11_init_233 rfl (lv_at hl 0 rfl) ?_
  refine lv_bipush (v := 20) hx hb dX11_init_234 (by decide) ?_
  refine x_newaI (len := 20) hx hb hts hK hR hz (by decide) (by decide) (Nat.le_of_ble_eq_true rfl) (Nat.le_of_ble_eq_true rfl) (Nat.le_of_ble_eq_true rfl) dX11_init_236 (fun H hR => ?_)
  have hR : Rl E _ 88 s.heap M H _ := hR
  have hz := zf.up (n1 := 88) hz (by decide)
  refine x_putr (rs1 := [some 48, none, none, none, none, none, some 49, some 52, some 55, some 58, some 61, some 64, some 67, some 70, some 73, some 74, some 75, some 76, some 77, none, none, none, none, some 78, some 79, some 80, some 81, none, none, none, some 82, some 83, some 84, none, none, some 85, some 86, none, none, some 87, none, none, none, none, none, none, none, none, none]) hx hb hown hts hK hR kX11 ⟨rfl, by decide⟩ (j := 39) (by decide) fl_X11_94 (Or.inr ⟨rfl, hin, rfl⟩) rfl rfl rfl (by decide) rfl dX11_init_238 (fun H locs hR => ?_)
  refine lv_aload_n hx hb dX11_init_241 rfl (lv_at hl 0 rfl) ?_
  refine lv_bipush (v := 8) hx hb dX11_init_242 (by decide) ?_
  refine lv_bipush (v := 8) hx hb dX11_init_244 (by decide) ?_
  refine x_mnaJ (N := 8) (K := 8) hx hb hown hts hK hN hR hz cl_X11_97 (by decide) (by decide) (by decide) (by decide) (Nat.le_of_ble_eq_true rfl) (Nat.le_of_ble_eq_true rfl) (Nat.le_of_ble_eq_true rfl) (Nat.le_of_ble_eq_true rfl) (Nat.le_of_ble_eq_true rfl) dX11_init_246 (fun H hR => ?_)
  have hR : Rl E _ 97 s.heap M H _ := hR
  have hz := zf.up (n1 := 97) hz (by decide)
  refine x_putr (rs1 := [some 48, none, none, none, none, none, some 49, some 52, some 55, some 58, some 61, some 64, some 67, some 70, some 73, some 74, some 75, some 76, some 77, none, none, none, none, some 78, some 79, some 80, some 81, none, none, none, some 82, some 83, some 84, none, none, some 85, some 86, none, none, some 87, some 88, none, none, none, none, none, none, none, none]) hx hb hown hts hK hR kX11 ⟨rfl, by decide⟩ (j := 40) (by decide) fl_X11_99 (Or.inr ⟨rfl, hin, rfl⟩) rfl rfl rfl (by decide) rfl dX11_init_250 (fun H locs hR => ?_)
  refine lv_aload_n hx hb dX11_init_253 rfl (lv_at hl 0 rfl) ?_
  refine lv_bipush (v := 8) hx hb dX11_init_254 (by decide) ?_
  refine x_newaJ (len := 8) hx hb hts hK hR hz (by decide) (by decide) (Nat.le_of_ble_eq_true rfl) (Nat.le_of_ble_eq_true rfl) (Nat.le_of_ble_eq_true rfl) dX11_init_256 (fun H hR => ?_)
  have hR : Rl E _ 98 s.heap M H _ := hR
  have hz := zf.up (n1 := 98) hz (by decide)
  refine x_putr (rs1 := [some 48, none, none, none, none, none, some 49, some 52, some 55, some 58, some 61, some 64, some 67, some 70, some 73, some 74, some 75, some 76, some 77, none, none, none, none, some 78, some 79, some 80, some 81, none, none, none, some 82, some 83, some 84, none, none, some 85, some 86, none, none, some 87, some 88, some 97, none, none, none, none, none, none, none]) hx hb hown hts hK hR kX11 ⟨rfl, by decide⟩ (j := 41) (by decide) fl_X11_102 (Or.inr ⟨rfl, hin, rfl⟩) rfl rfl rfl (by decide) rfl dX11_init_258 (fun H locs hR => ?_)
  refine lv_aload_n hx hb dX11_init_261 rfl (lv_at hl 0 rfl) ?_
  refine lv_bipush (v := 15) hx hb dX11_init_262 (by decide) ?_
  refine x_newaI (len := 15) hx hb hts hK hR hz (by decide) (by decide) (Nat.le_of_ble_eq_true rfl) (Nat.le_of_ble_eq_true rfl) (Nat.le_of_ble_eq_true rfl) dX11_init_264 (fun H hR => ?_)
  have hR : Rl E _ 99 s.heap M H _ := hR
  have hz := zf.up (n1 := 99) hz (by decide)
  refine x_putr (rs1 := [some 48, none, none, none, none, none, some 49, some 52, some 55, some 58, some 61, some 64, some 67, some 70, some 73, some 74, some 75, some 76, some 77, none, none, none, none, some 78, some 79, some 80, some 81, none, none, none, some 82, some 83, some 84, none, none, some 85, some 86, none, none, some 87, some 88, some 97, some 98, none, none, none, none, none, none]) hx hb hown hts hK hR kX11 ⟨rfl, by decide⟩ (j := 42) (by decide) fl_X11_105 (Or.inr ⟨rfl, hin, rfl⟩) rfl rfl rfl (by decide) rfl dX11_init_266 (fun H locs hR => ?_)
  refine lv_aload_n hx hb dX11_init_269 rfl (lv_at hl 0 rfl) ?_
  refine lv_bipush (v := 15) hx hb dX11_init_270 (by decide) ?_
  refine x_newaI (len := 15) hx hb hts hK hR hz (by decide) (by decide) (Nat.le_of_ble_eq_true rfl) (Nat.le_of_ble_eq_true rfl) (Nat.le_of_ble_eq_true rfl) dX11_init_272 (fun H hR => ?_)
  have hR : Rl E _ 100 s.heap M H _ := hR
  have hz := zf.up (n1 := 100) hz (by decide)
  refine x_putr (rs1 := [some 48, none, none, none, none, none, some 49, some 52, some 55, some 58, some 61, some 64, some 67, some 70, some 73, some 74, some 75, some 76, some 77, none, none, none, none, some 78, some 79, some 80, some 81, none, none, none, some 82, some 83, some 84, none, none, some 85, some 86, none, none, some 87, some 88, some 97, some 98, some 99, none, none, none, none, none]) hx hb hown hts hK hR kX11 ⟨rfl, by decide⟩ (j := 43) (by decide) fl_X11_108 (Or.inr ⟨rfl, hin, rfl⟩) rfl rfl rfl (by decide) rfl dX11_init_274 (fun H locs hR => ?_)
  refine lv_aload_n hx hb dX11_init_277 rfl (lv_at hl 0 rfl) ?_
  refine lv_bipush (v := 40) hx hb dX11_init_278 (by decide) ?_
  refine lv_bipush (v := 9) hx hb dX11_init_280 (by decide) ?_
  refine x_mnaI (N := 40) (K := 9) hx hb hown hts hK hN hR hz cl_X11_13 (by decide) (by decide) (by decide) (by decide) (Nat.le_of_ble_eq_true rfl) (Nat.le_of_ble_eq_true rfl) (Nat.le_of_ble_eq_true rfl) (Nat.le_of_ble_eq_true rfl) (Nat.le_of_ble_eq_true rfl) dX11_init_282 (fun H hR => ?_)
  have hR : Rl E _ 141 s.heap M H _ := hR
  have hz := zf.up (n1 := 141) hz (by decide)
  refine x_putr (rs1 := [some 48, none, none, none, none, none, some 49, some 52, some 55, some 58, some 61, some 64, some 67, some 70, some 73, some 74, some 75, some 76, some 77, none, none, none, none, some 78, some 79, some 80, some 81, none, none, none, some 82, some 83, some 84, none, none, some 85, some 86, none, none, some 87, some 88, some 97, some 98, some 99, none, none, none, some 100, none]) hx hb hown hts hK hR kX11 ⟨rfl, by decide⟩ (j := 47) (by decide) fl_X11_111 (Or.inr ⟨rfl, hin, rfl⟩) rfl rfl rfl (by decide) rfl dX11_init_286 (fun H locs hR => ?_)
  exact ct_end hx hb hr hlk hR rfl dX11_init_289
set_option maxHeartbeats 8000000 in
set_option maxRecDepth 100000 in
theorem ctX1_init_141 {l : Launch} {E : Ge} {sh : Nat → Sh} {M : Mem} (hz : zf M 142) : CT l E yX1_init cX1_init 2 none 2 5 45001 [.ref (eB E + 141), .ref (eB E + 1)] none (shp sh 141 (0, 1, List.replicate 11 none)) 142 M (shp (shp (shp (shp (shp (shp (shp (shp (shp (shp (shp (shp sh 141 (0, 1, List.replicate 11 none)) 142 (1, 10000, [])) 141 (0, 1, [none, some 142, none, none, none, none, none, none, none, none, none])) 143 (1, 10000, [])) 141 (0, 1, [none, some 142, some 143, none, none, none, none, none, none, none, none])) 144 (4, 10000, [])) 141 (0, 1, [none, some 142, some 143, some 144, none, none, none, none, none, none, none])) 145 (1, 10000, [])) 141 (0, 1, [none, some 142, some 143, some 144, some 145, none, none, none, none, none, none])) 146 (1, 5001, [])) 141 (0, 1, [none, some 142, some 143, some 144, some 145, some 146, none, none, none, none, none])) 141 (0, 1, [some 1, some 142, some 143, some 144, some 145, some 146, none, none, none, none, none])) 147 (sI (sI (sI M 141 8 (-1 : Int32)) 141 9 (-1 : Int32)) 141 10 (-1 : Int32)) := by
  refine met_of (by decide) (Nat.le_of_ble_eq_true rfl) ?_
  intro p e s m args below meth c X hi hR ls hl
  obtain ⟨hx, hb, hr, hml, hown, hts, hK, hN, hO, hlk, hbs⟩ := id X
  have hin := hi rfl
  refine lv_aload_n hx hb dX1_init_0 rfl (lv_at hl 0 rfl) ?_
  refine W.objInit hx hb hown (hts _ ml_X1_3) (hts _ im_obj) (hts _ co_obj) rfl (by rw [hml]; exact hl.1) rfl dX1_init_1 (Nat.le_of_ble_eq_true rfl) (Nat.le_of_ble_eq_true rfl) ?_
  refine W.eq (g2 := F0 m 4 ls []) rfl ?_
  refine lv_aload_n hx hb dX1_init_4 rfl (lv_at hl 0 rfl) ?_
  refine lv_sipush (v := 10000) hx hb dX1_init_5 (by decide) ?_
  refine x_newaI (len := 10000) hx hb hts hK hR hz (by decide) (by decide) (Nat.le_of_ble_eq_true rfl) (Nat.le_of_ble_eq_true rfl) (Nat.le_of_ble_eq_true rfl) dX1_init_8 (fun H hR => ?_)
  have hR : Rl E _ 143 s.heap M H _ := hR
  have hz := zf.up (n1 := 143) hz (by decide)
  refine x_putr (rs1 := [none, some 142, none, none, none, none, none, none, none, none, none]) hx hb hown hts hK hR kX1 ⟨rfl, by decide⟩ (j := 1) (by decide) fl_X1_9 (Or.inr ⟨rfl, hin, rfl⟩) rfl rfl rfl (by decide) rfl dX1_init_10 (fun H locs hR => ?_)
  refine lv_aload_n hx hb dX1_init_13 rfl (lv_at hl 0 rfl) ?_
  refine lv_sipush (v := 10000) hx hb dX1_init_14 (by decide) ?_
  refine x_newaI (len := 10000) hx hb hts hK hR hz (by decide) (by decide) (Nat.le_of_ble_eq_true rfl) (Nat.le_of_ble_eq_true rfl) (Nat.le_of_ble_eq_true rfl) dX1_init_17 (fun H hR => ?_)
  have hR : Rl E _ 144 s.heap M H _ := hR
  have hz := zf.up (n1 := 144) hz (by decide)
  refine x_putr (rs1 := [none, some 142, some 143, none, none, none, none, none, none, none, none]) hx hb hown hts hK hR kX1 ⟨rfl, by decide⟩ (j := 2) (by decide) fl_X1_15 (Or.inr ⟨rfl, hin, rfl⟩) rfl rfl rfl (by decide) rfl dX1_init_19 (fun H locs hR => ?_)
  refine lv_aload_n hx hb dX1_init_22 rfl (lv_at hl 0 rfl) ?_
  refine lv_sipush (v := 10000) hx hb dX1_init_23 (by decide) ?_
  refine x_newaZ (len := 10000) hx hb hts hK hR hz (by decide) (by decide) (Nat.le_of_ble_eq_true rfl) (Nat.le_of_ble_eq_true rfl) (Nat.le_of_ble_eq_true rfl) dX1_init_26 (fun H hR => ?_)
  have hR : Rl E _ 145 s.heap M H _ := hR
  have hz := zf.up (n1 := 145) hz (by decide)
  refine x_putr (rs1 := [none, some 142, some 143, some 144, none, none, none, none, none, none, none]) hx hb hown hts hK hR kX1 ⟨rfl, by decide⟩ (j := 3) (by decide) fl_X1_18 (Or.inr ⟨rfl, hin, rfl⟩) rfl rfl rfl (by decide) rfl dX1_init_28 (fun H locs hR => ?_)
  refine lv_aload_n hx hb dX1_init_31 rfl (lv_at hl 0 rfl) ?_
  refine lv_sipush (v := 10000) hx hb dX1_init_32 (by decide) ?_
  refine x_newaI (len := 10000) hx hb hts hK hR hz (by decide) (by decide) (Nat.le_of_ble_eq_true rfl) (Nat.le_of_ble_eq_true rfl) (Nat.le_of_ble_eq_true rfl) dX1_init_35 (fun H hR => ?_)
  have hR : Rl E _ 146 s.heap M H _ := hR
  have hz := zf.up (n1 := 146) hz (by decide)
  refine x_putr (rs1 := [none, some 142, some 143, some 144, some 145, none, none, none, none, none, none]) hx hb hown hts hK hR kX1 ⟨rfl, by decide⟩ (j := 4) (by decide) fl_X1_22 (Or.inr ⟨rfl, hin, rfl⟩) rfl rfl rfl (by decide) rfl dX1_init_37 (fun H locs hR => ?_)
  refine lv_aload_n hx hb dX1_init_40 rfl (lv_at hl 0 rfl) ?_
  refine lv_sipush (v := 5001) hx hb dX1_init_41 (by decide) ?_
  refine x_newaI (len := 5001) hx hb hts hK hR hz (by decide) (by decide) (Nat.le_of_ble_eq_true rfl) (Nat.le_of_ble_eq_true rfl) (Nat.le_of_ble_eq_true rfl) dX1_init_44 (fun H hR => ?_)
  have hR : Rl E _ 147 s.heap M H _ := hR
  have hz := zf.up (n1 := 147) hz (by decide)
  refine x_putr (rs1 := [none, some 142, some 143, some 144, some 145, some 146, none, none, none, none, none]) hx hb hown hts hK hR kX1 ⟨rfl, by decide⟩ (j := 5) (by decide) fl_X1_25 (Or.inr ⟨rfl, hin, rfl⟩) rfl rfl rfl (by decide) rfl dX1_init_46 (fun H locs hR => ?_)
  refine lv_aload_n hx hb dX1_init_49 rfl (lv_at hl 0 rfl) ?_
  refine lv_iconst (v := -1) hx hb dX1_init_50 (by decide) ?_
  refine x_puti hx hb hown hts hK hR kX1 ⟨rfl, by decide⟩ (j := 8) (by decide) fl_X1_28 rfl rfl rfl rfl dX1_init_51 (fun H locs hR => ?_)
  obtain ⟨M51, e51⟩ : ∃ y : Mem, y = (sI M 141 8 (-1 : Int32)) := ⟨_, rfl⟩
  rw [← e51] at hR
  have hz : zf M51 147 := by rw [e51]; exact zf_sI hz (by decide)
  refine lv_aload_n hx hb dX1_init_54 rfl (lv_at hl 0 rfl) ?_
  refine lv_iconst (v := -1) hx hb dX1_init_55 (by decide) ?_
  refine x_puti hx hb hown hts hK hR kX1 ⟨rfl, by decide⟩ (j := 9) (by decide) fl_X1_32 rfl rfl rfl rfl dX1_init_56 (fun H locs hR => ?_)
  obtain ⟨M56, e56⟩ : ∃ y : Mem, y = (sI M51 141 9 (-1 : Int32)) := ⟨_, rfl⟩
  rw [← e56] at hR
  have hz : zf M56 147 := by rw [e56]; exact zf_sI hz (by decide)
  refine lv_aload_n hx hb dX1_init_59 rfl (lv_at hl 0 rfl) ?_
  refine lv_iconst (v := -1) hx hb dX1_init_60 (by decide) ?_
  refine x_puti hx hb hown hts hK hR kX1 ⟨rfl, by decide⟩ (j := 10) (by decide) fl_X1_35 rfl rfl rfl rfl dX1_init_61 (fun H locs hR => ?_)
  obtain ⟨M61, e61⟩ : ∃ y : Mem, y = (sI M56 141 10 (-1 : Int32)) := ⟨_, rfl⟩
  rw [← e61] at hR
  have hz : zf M61 147 := by rw [e61]; exact zf_sI hz (by decide)
  refine lv_aload_n hx hb dX1_init_64 rfl (lv_at hl 0 rfl) ?_
  refine lv_aload_n hx hb dX1_init_65 rfl (lv_at hl 1 rfl) ?_
  refine x_putr (rs1 := [some 1, some 142, some 143, some 144, some 145, some 146, none, none, none, none, none]) hx hb hown hts hK hR kX1 ⟨rfl, by decide⟩ (j := 0) (by decide) fl_X1_38 (Or.inr ⟨rfl, hin, rfl⟩) rfl rfl rfl (by decide) rfl dX1_init_66 (fun H locs hR => ?_)
  exact ct_end hx hb hr hlk hR (by rw [e61, e56, e51]) dX1_init_69
theorem zzX1_init_141 {M : Mem} (h : zf M 147) : zf (sI (sI (sI M 141 8 (-1 : Int32)) 141 9 (-1 : Int32)) 141 10 (-1 : Int32)) 147 := (zf_sI (zf_sI (zf_sI h (by decide)) (by decide)) (by decide))
