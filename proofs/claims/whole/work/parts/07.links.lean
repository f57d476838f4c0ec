def WS : List Cond := lw_tbl.filter goodWord
theorem ws_i {w : Cond} (h : w ∈ lw_tbl) (g : goodWord w = true) : w ∈ WS := List.mem_filter.mpr ⟨h, g⟩
theorem ws_good : GoodIn WS WS := fun w h => ⟨h, good_of_word (List.mem_filter.mp h).2⟩
theorem mT {w : Cond} (h : w ∈ tables_1) : w ∈ lw_tbl := List.mem_append_right _ h
theorem mT1 {w : Cond} (h : w ∈ tables_1_1) : w ∈ lw_tbl := mT (List.mem_append_left _ h)
theorem mT2 {w : Cond} (h : w ∈ tables_1_2) : w ∈ lw_tbl := mT (List.mem_append_right _ (List.mem_append_left _ h))
theorem mT3 {w : Cond} (h : w ∈ tables_1_3) : w ∈ lw_tbl := mT (List.mem_append_right _ (List.mem_append_right _ (List.mem_append_left _ h)))
theorem mT4 {w : Cond} (h : w ∈ tables_1_4) : w ∈ lw_tbl := mT (List.mem_append_right _ (List.mem_append_right _ (List.mem_append_right _ (List.mem_append_left _ h))))
theorem mT5 {w : Cond} (h : w ∈ tables_1_5) : w ∈ lw_tbl := mT (List.mem_append_right _ (List.mem_append_right _ (List.mem_append_right _ (List.mem_append_right _ (List.mem_append_left _ h)))))
theorem mT6 {w : Cond} (h : w ∈ tables_1_6) : w ∈ lw_tbl := mT (List.mem_append_right _ (List.mem_append_right _ (List.mem_append_right _ (List.mem_append_right _ (List.mem_append_right _ (List.mem_append_left _ h))))))
theorem mT7 {w : Cond} (h : w ∈ tables_1_7) : w ∈ lw_tbl := mT (List.mem_append_right _ (List.mem_append_right _ (List.mem_append_right _ (List.mem_append_right _ (List.mem_append_right _ (List.mem_append_right _ (List.mem_append_left _ h)))))))
theorem mT8 {w : Cond} (h : w ∈ tables_1_8) : w ∈ lw_tbl := mT (List.mem_append_right _ (List.mem_append_right _ (List.mem_append_right _ (List.mem_append_right _ (List.mem_append_right _ (List.mem_append_right _ (List.mem_append_right _ (h))))))))
theorem mS {q : MethodName × Nat} (h : q ∈ lw_privs) : Cond.selects q.1.cls q.1 q.1 ∈ lw_tbl := List.mem_append_left _ (List.mem_map.mpr ⟨q, h, rfl⟩)
theorem mS1 {q : MethodName × Nat} (h : q ∈ lw_privs_1) : Cond.selects q.1.cls q.1 q.1 ∈ lw_tbl := mS (List.mem_append_left _ h)
theorem mS2 {q : MethodName × Nat} (h : q ∈ lw_privs_2) : Cond.selects q.1.cls q.1 q.1 ∈ lw_tbl := mS (List.mem_append_right _ (List.mem_append_left _ h))
theorem mS3 {q : MethodName × Nat} (h : q ∈ lw_privs_3) : Cond.selects q.1.cls q.1 q.1 ∈ lw_tbl := mS (List.mem_append_right _ (List.mem_append_right _ (List.mem_append_left _ h)))
theorem mS4 {q : MethodName × Nat} (h : q ∈ lw_privs_4) : Cond.selects q.1.cls q.1 q.1 ∈ lw_tbl := mS (List.mem_append_right _ (List.mem_append_right _ (List.mem_append_right _ (List.mem_append_left _ h))))
theorem mS5 {q : MethodName × Nat} (h : q ∈ lw_privs_5) : Cond.selects q.1.cls q.1 q.1 ∈ lw_tbl := mS (List.mem_append_right _ (List.mem_append_right _ (List.mem_append_right _ (List.mem_append_right _ (List.mem_append_left _ h)))))
theorem mS6 {q : MethodName × Nat} (h : q ∈ lw_privs_6) : Cond.selects q.1.cls q.1 q.1 ∈ lw_tbl := mS (List.mem_append_right _ (List.mem_append_right _ (List.mem_append_right _ (List.mem_append_right _ (List.mem_append_right _ (List.mem_append_left _ h))))))
theorem mS7 {q : MethodName × Nat} (h : q ∈ lw_privs_7) : Cond.selects q.1.cls q.1 q.1 ∈ lw_tbl := mS (List.mem_append_right _ (List.mem_append_right _ (List.mem_append_right _ (List.mem_append_right _ (List.mem_append_right _ (List.mem_append_right _ (h)))))))
theorem fl_J0_9 : Cond.fieldLink RJ0 9 "java/lang/String" "value" "[B" ∈ WS := ws_i (mT8 (List.mem_of_getElem? (i := 40) (by decide +kernel))) (by decide +kernel)
theorem fl_J0_15 : Cond.fieldLink RJ0 15 "java/lang/String" "coder" "B" ∈ WS := ws_i (mT8 (List.mem_of_getElem? (i := 41) (by decide +kernel))) (by decide +kernel)
theorem fl_J0_38 : Cond.fieldLink RJ0 38 "java/lang/String" "COMPACT_STRINGS" "Z" ∈ WS := ws_i (mT3 (List.mem_of_getElem? (i := 39) (by decide +kernel))) (by decide +kernel)
theorem fl_J0_1053 : Cond.fieldLink RJ0 1053 "jdk/internal/util/Preconditions" "SIOOBE_FORMATTER" "Ljava/util/function/BiFunction;" ∈ WS := ws_i (mT3 (List.mem_of_getElem? (i := 55) (by decide +kernel))) (by decide +kernel)
theorem fl_J2_44 : Cond.fieldLink RJ2 44 "java/lang/StringUTF16" "$assertionsDisabled" "Z" ∈ WS := ws_i (mT3 (List.mem_of_getElem? (i := 73) (by decide +kernel))) (by decide +kernel)
theorem fl_J2_59 : Cond.fieldLink RJ2 59 "java/lang/StringUTF16" "HI_BYTE_SHIFT" "I" ∈ WS := ws_i (mT3 (List.mem_of_getElem? (i := 75) (by decide +kernel))) (by decide +kernel)
theorem fl_J2_63 : Cond.fieldLink RJ2 63 "java/lang/StringUTF16" "LO_BYTE_SHIFT" "I" ∈ WS := ws_i (mT3 (List.mem_of_getElem? (i := 77) (by decide +kernel))) (by decide +kernel)
theorem fl_X0_9 : Cond.fieldLink RX0 9 "MiddleSheet$Duels" "forOne" "[I" ∈ WS := ws_i (mT1 (List.mem_of_getElem? (i := 192) (by decide +kernel))) (by decide +kernel)
theorem fl_X0_15 : Cond.fieldLink RX0 15 "MiddleSheet$Duels" "ways" "[I" ∈ WS := ws_i (mT1 (List.mem_of_getElem? (i := 193) (by decide +kernel))) (by decide +kernel)
theorem fl_X0_18 : Cond.fieldLink RX0 18 "MiddleSheet$Duels" "beaters" "[I" ∈ WS := ws_i (mT1 (List.mem_of_getElem? (i := 194) (by decide +kernel))) (by decide +kernel)
theorem fl_X0_21 : Cond.fieldLink RX0 21 "MiddleSheet$Duels" "steps" "[I" ∈ WS := ws_i (mT1 (List.mem_of_getElem? (i := 195) (by decide +kernel))) (by decide +kernel)
theorem fl_X0_24 : Cond.fieldLink RX0 24 "MiddleSheet$Duels" "unbeaten" "I" ∈ WS := ws_i (mT1 (List.mem_of_getElem? (i := 199) (by decide +kernel))) (by decide +kernel)
theorem fl_X0_28 : Cond.fieldLink RX0 28 "MiddleSheet$Duels" "voterState" "I" ∈ WS := ws_i (mT1 (List.mem_of_getElem? (i := 201) (by decide +kernel))) (by decide +kernel)
theorem fl_X0_31 : Cond.fieldLink RX0 31 "MiddleSheet$Duels" "placeState" "I" ∈ WS := ws_i (mT1 (List.mem_of_getElem? (i := 202) (by decide +kernel))) (by decide +kernel)
theorem fl_X0_34 : Cond.fieldLink RX0 34 "MiddleSheet$Duels" "sheet" "LMiddleSheet$Sheet;" ∈ WS := ws_i (mT1 (List.mem_of_getElem? (i := 189) (by decide +kernel))) (by decide +kernel)
theorem fl_X0_38 : Cond.fieldLink RX0 38 "MiddleSheet$Sheet" "voterState" "I" ∈ WS := ws_i (mT1 (List.mem_of_getElem? (i := 92) (by decide +kernel))) (by decide +kernel)
theorem fl_X0_41 : Cond.fieldLink RX0 41 "MiddleSheet$Sheet" "placeState" "I" ∈ WS := ws_i (mT1 (List.mem_of_getElem? (i := 100) (by decide +kernel))) (by decide +kernel)
theorem fl_X0_48 : Cond.fieldLink RX0 48 "MiddleSheet$Sheet" "voters" "I" ∈ WS := ws_i (mT1 (List.mem_of_getElem? (i := 38) (by decide +kernel))) (by decide +kernel)
theorem fl_X0_55 : Cond.fieldLink RX0 55 "MiddleSheet$Duels" "pairs" "I" ∈ WS := ws_i (mT1 (List.mem_of_getElem? (i := 197) (by decide +kernel))) (by decide +kernel)
theorem fl_X0_58 : Cond.fieldLink RX0 58 "MiddleSheet$Sheet" "places" "I" ∈ WS := ws_i (mT1 (List.mem_of_getElem? (i := 74) (by decide +kernel))) (by decide +kernel)
theorem fl_X0_70 : Cond.fieldLink RX0 70 "MiddleSheet$Sheet" "placeX" "[I" ∈ WS := ws_i (mT1 (List.mem_of_getElem? (i := 80) (by decide +kernel))) (by decide +kernel)
theorem fl_X0_73 : Cond.fieldLink RX0 73 "MiddleSheet$Sheet" "placeY" "[I" ∈ WS := ws_i (mT1 (List.mem_of_getElem? (i := 84) (by decide +kernel))) (by decide +kernel)
theorem fl_X0_80 : Cond.fieldLink RX0 80 "MiddleSheet$Sheet" "weight" "[I" ∈ WS := ws_i (mT1 (List.mem_of_getElem? (i := 57) (by decide +kernel))) (by decide +kernel)
theorem fl_X1_9 : Cond.fieldLink RX1 9 "MiddleSheet$Field" "shorter" "[I" ∈ WS := ws_i (mT4 (List.mem_of_getElem? (i := 143) (by decide +kernel))) (by decide +kernel)
theorem fl_X1_15 : Cond.fieldLink RX1 15 "MiddleSheet$Field" "notLonger" "[I" ∈ WS := ws_i (mT4 (List.mem_of_getElem? (i := 144) (by decide +kernel))) (by decide +kernel)
theorem fl_X1_18 : Cond.fieldLink RX1 18 "MiddleSheet$Field" "isWinning" "[Z" ∈ WS := ws_i (mT4 (List.mem_of_getElem? (i := 145) (by decide +kernel))) (by decide +kernel)
theorem fl_X1_22 : Cond.fieldLink RX1 22 "MiddleSheet$Field" "queue" "[I" ∈ WS := ws_i (mT4 (List.mem_of_getElem? (i := 146) (by decide +kernel))) (by decide +kernel)
theorem fl_X1_25 : Cond.fieldLink RX1 25 "MiddleSheet$Field" "starts" "[I" ∈ WS := ws_i (mT4 (List.mem_of_getElem? (i := 147) (by decide +kernel))) (by decide +kernel)
theorem fl_X1_28 : Cond.fieldLink RX1 28 "MiddleSheet$Field" "pieces" "I" ∈ WS := ws_i (mT4 (List.mem_of_getElem? (i := 152) (by decide +kernel))) (by decide +kernel)
theorem fl_X1_32 : Cond.fieldLink RX1 32 "MiddleSheet$Field" "base" "I" ∈ WS := ws_i (mT4 (List.mem_of_getElem? (i := 154) (by decide +kernel))) (by decide +kernel)
theorem fl_X1_35 : Cond.fieldLink RX1 35 "MiddleSheet$Field" "voterState" "I" ∈ WS := ws_i (mT4 (List.mem_of_getElem? (i := 155) (by decide +kernel))) (by decide +kernel)
theorem fl_X1_38 : Cond.fieldLink RX1 38 "MiddleSheet$Field" "sheet" "LMiddleSheet$Sheet;" ∈ WS := ws_i (mT4 (List.mem_of_getElem? (i := 142) (by decide +kernel))) (by decide +kernel)
theorem fl_X1_42 : Cond.fieldLink RX1 42 "MiddleSheet$Sheet" "voterState" "I" ∈ WS := ws_i (mT1 (List.mem_of_getElem? (i := 98) (by decide +kernel))) (by decide +kernel)
theorem fl_X1_49 : Cond.fieldLink RX1 49 "MiddleSheet$Field" "winning" "I" ∈ WS := ws_i (mT4 (List.mem_of_getElem? (i := 148) (by decide +kernel))) (by decide +kernel)
theorem fl_X1_52 : Cond.fieldLink RX1 52 "MiddleSheet$Field" "greatest" "I" ∈ WS := ws_i (mT4 (List.mem_of_getElem? (i := 150) (by decide +kernel))) (by decide +kernel)
theorem fl_X1_55 : Cond.fieldLink RX1 55 "MiddleSheet$Sheet" "all" "I" ∈ WS := ws_i (mT1 (List.mem_of_getElem? (i := 69) (by decide +kernel))) (by decide +kernel)
theorem fl_X1_74 : Cond.fieldLink RX1 74 "MiddleSheet$Sheet" "voters" "I" ∈ WS := ws_i (mT1 (List.mem_of_getElem? (i := 40) (by decide +kernel))) (by decide +kernel)
theorem fl_X1_92 : Cond.fieldLink RX1 92 "MiddleSheet$Sheet" "x" "[I" ∈ WS := ws_i (mT1 (List.mem_of_getElem? (i := 47) (by decide +kernel))) (by decide +kernel)
theorem fl_X1_99 : Cond.fieldLink RX1 99 "MiddleSheet$Sheet" "y" "[I" ∈ WS := ws_i (mT1 (List.mem_of_getElem? (i := 53) (by decide +kernel))) (by decide +kernel)
theorem fl_X1_102 : Cond.fieldLink RX1 102 "MiddleSheet$Sheet" "weight" "[I" ∈ WS := ws_i (mT1 (List.mem_of_getElem? (i := 59) (by decide +kernel))) (by decide +kernel)
theorem fl_X10_12 : Cond.fieldLink RX10 12 "MiddleSheet" "told" "LMiddleSheet$Sheet;" ∈ WS := ws_i (mT2 (List.mem_of_getElem? (i := 188) (by decide +kernel))) (by decide +kernel)
theorem fl_X10_19 : Cond.fieldLink RX10 19 "MiddleSheet" "reader" "LMiddleSheet$Reader;" ∈ WS := ws_i (mT2 (List.mem_of_getElem? (i := 189) (by decide +kernel))) (by decide +kernel)
theorem fl_X10_28 : Cond.fieldLink RX10 28 "MiddleSheet" "duels" "LMiddleSheet$Duels;" ∈ WS := ws_i (mT2 (List.mem_of_getElem? (i := 190) (by decide +kernel))) (by decide +kernel)
theorem fl_X10_35 : Cond.fieldLink RX10 35 "MiddleSheet" "lines" "LMiddleSheet$Lines;" ∈ WS := ws_i (mT2 (List.mem_of_getElem? (i := 191) (by decide +kernel))) (by decide +kernel)
theorem fl_X10_44 : Cond.fieldLink RX10 44 "MiddleSheet" "middles" "LMiddleSheet$Middles;" ∈ WS := ws_i (mT2 (List.mem_of_getElem? (i := 192) (by decide +kernel))) (by decide +kernel)
theorem fl_X10_53 : Cond.fieldLink RX10 53 "MiddleSheet" "around" "LMiddleSheet$Round;" ∈ WS := ws_i (mT2 (List.mem_of_getElem? (i := 193) (by decide +kernel))) (by decide +kernel)
theorem fl_X10_62 : Cond.fieldLink RX10 62 "MiddleSheet" "lots" "LMiddleSheet$Lots;" ∈ WS := ws_i (mT2 (List.mem_of_getElem? (i := 195) (by decide +kernel))) (by decide +kernel)
theorem fl_X10_69 : Cond.fieldLink RX10 69 "MiddleSheet" "standing" "LMiddleSheet$Standing;" ∈ WS := ws_i (mT2 (List.mem_of_getElem? (i := 196) (by decide +kernel))) (by decide +kernel)
theorem fl_X10_76 : Cond.fieldLink RX10 76 "MiddleSheet" "moves" "LMiddleSheet$Moves;" ∈ WS := ws_i (mT2 (List.mem_of_getElem? (i := 197) (by decide +kernel))) (by decide +kernel)
theorem fl_X10_80 : Cond.fieldLink RX10 80 "MiddleSheet$Reader" "length" "I" ∈ WS := ws_i (mT1 (List.mem_of_getElem? (i := 147) (by decide +kernel))) (by decide +kernel)
theorem fl_X10_92 : Cond.fieldLink RX10 92 "MiddleSheet$Reader" "draft" "LMiddleSheet$Sheet;" ∈ WS := ws_i (mT1 (List.mem_of_getElem? (i := 150) (by decide +kernel))) (by decide +kernel)
theorem fl_X10_98 : Cond.fieldLink RX10 98 "MiddleSheet$Moves" "size" "I" ∈ WS := ws_i (mT2 (List.mem_of_getElem? (i := 182) (by decide +kernel))) (by decide +kernel)
theorem fl_X10_101 : Cond.fieldLink RX10 101 "MiddleSheet$Sheet" "voters" "I" ∈ WS := ws_i (mT1 (List.mem_of_getElem? (i := 42) (by decide +kernel))) (by decide +kernel)
theorem fl_X10_108 : Cond.fieldLink RX10 108 "MiddleSheet$Sheet" "x" "[I" ∈ WS := ws_i (mT1 (List.mem_of_getElem? (i := 48) (by decide +kernel))) (by decide +kernel)
theorem fl_X10_112 : Cond.fieldLink RX10 112 "MiddleSheet$Sheet" "y" "[I" ∈ WS := ws_i (mT1 (List.mem_of_getElem? (i := 54) (by decide +kernel))) (by decide +kernel)
theorem fl_X10_115 : Cond.fieldLink RX10 115 "MiddleSheet$Sheet" "weight" "[I" ∈ WS := ws_i (mT1 (List.mem_of_getElem? (i := 60) (by decide +kernel))) (by decide +kernel)
theorem fl_X10_118 : Cond.fieldLink RX10 118 "MiddleSheet$Sheet" "measure" "[I" ∈ WS := ws_i (mT1 (List.mem_of_getElem? (i := 63) (by decide +kernel))) (by decide +kernel)
theorem fl_X10_121 : Cond.fieldLink RX10 121 "MiddleSheet$Sheet" "stretchX" "[I" ∈ WS := ws_i (mT1 (List.mem_of_getElem? (i := 65) (by decide +kernel))) (by decide +kernel)
theorem fl_X10_124 : Cond.fieldLink RX10 124 "MiddleSheet$Sheet" "stretchY" "[I" ∈ WS := ws_i (mT1 (List.mem_of_getElem? (i := 67) (by decide +kernel))) (by decide +kernel)
theorem fl_X10_130 : Cond.fieldLink RX10 130 "MiddleSheet$Sheet" "placeX" "[I" ∈ WS := ws_i (mT1 (List.mem_of_getElem? (i := 81) (by decide +kernel))) (by decide +kernel)
theorem fl_X10_133 : Cond.fieldLink RX10 133 "MiddleSheet$Sheet" "placeY" "[I" ∈ WS := ws_i (mT1 (List.mem_of_getElem? (i := 85) (by decide +kernel))) (by decide +kernel)
theorem fl_X10_140 : Cond.fieldLink RX10 140 "MiddleSheet$Sheet" "places" "I" ∈ WS := ws_i (mT1 (List.mem_of_getElem? (i := 77) (by decide +kernel))) (by decide +kernel)
theorem fl_X10_168 : Cond.fieldLink RX10 168 "MiddleSheet$Lines" "size" "I" ∈ WS := ws_i (mT2 (List.mem_of_getElem? (i := 5) (by decide +kernel))) (by decide +kernel)
theorem fl_X10_170 : Cond.fieldLink RX10 170 "MiddleSheet$Lines" "a" "[I" ∈ WS := ws_i (mT1 (List.mem_of_getElem? (i := 233) (by decide +kernel))) (by decide +kernel)
theorem fl_X10_173 : Cond.fieldLink RX10 173 "MiddleSheet$Lines" "b" "[I" ∈ WS := ws_i (mT1 (List.mem_of_getElem? (i := 237) (by decide +kernel))) (by decide +kernel)
theorem fl_X10_176 : Cond.fieldLink RX10 176 "MiddleSheet$Lines" "c" "[I" ∈ WS := ws_i (mT2 (List.mem_of_getElem? (i := 1) (by decide +kernel))) (by decide +kernel)
theorem fl_X10_180 : Cond.fieldLink RX10 180 "MiddleSheet$Middles" "size" "I" ∈ WS := ws_i (mT2 (List.mem_of_getElem? (i := 35) (by decide +kernel))) (by decide +kernel)
theorem fl_X10_181 : Cond.fieldLink RX10 181 "MiddleSheet$Middles" "x" "[J" ∈ WS := ws_i (mT2 (List.mem_of_getElem? (i := 29) (by decide +kernel))) (by decide +kernel)
theorem fl_X10_184 : Cond.fieldLink RX10 184 "MiddleSheet$Middles" "y" "[J" ∈ WS := ws_i (mT2 (List.mem_of_getElem? (i := 31) (by decide +kernel))) (by decide +kernel)
theorem fl_X10_186 : Cond.fieldLink RX10 186 "MiddleSheet$Middles" "n" "[J" ∈ WS := ws_i (mT2 (List.mem_of_getElem? (i := 33) (by decide +kernel))) (by decide +kernel)
theorem fl_X10_189 : Cond.fieldLink RX10 189 "MiddleSheet$Middles" "proofLine" "[I" ∈ WS := ws_i (mT2 (List.mem_of_getElem? (i := 37) (by decide +kernel))) (by decide +kernel)
theorem fl_X10_193 : Cond.fieldLink RX10 193 "MiddleSheet$Round" "x" "I" ∈ WS := ws_i (mT2 (List.mem_of_getElem? (i := 65) (by decide +kernel))) (by decide +kernel)
theorem fl_X10_195 : Cond.fieldLink RX10 195 "MiddleSheet$Round" "y" "I" ∈ WS := ws_i (mT2 (List.mem_of_getElem? (i := 67) (by decide +kernel))) (by decide +kernel)
theorem fl_X10_197 : Cond.fieldLink RX10 197 "MiddleSheet$Round" "p" "J" ∈ WS := ws_i (mT2 (List.mem_of_getElem? (i := 69) (by decide +kernel))) (by decide +kernel)
theorem fl_X10_201 : Cond.fieldLink RX10 201 "MiddleSheet$Round" "q" "J" ∈ WS := ws_i (mT2 (List.mem_of_getElem? (i := 71) (by decide +kernel))) (by decide +kernel)
theorem fl_X10_208 : Cond.fieldLink RX10 208 "MiddleSheet$Field" "winning" "I" ∈ WS := ws_i (mT4 (List.mem_of_getElem? (i := 149) (by decide +kernel))) (by decide +kernel)
theorem fl_X10_216 : Cond.fieldLink RX10 216 "MiddleSheet$Field" "pieces" "I" ∈ WS := ws_i (mT4 (List.mem_of_getElem? (i := 153) (by decide +kernel))) (by decide +kernel)
theorem fl_X10_229 : Cond.fieldLink RX10 229 "MiddleSheet$Duels" "steps" "[I" ∈ WS := ws_i (mT1 (List.mem_of_getElem? (i := 196) (by decide +kernel))) (by decide +kernel)
theorem fl_X10_245 : Cond.fieldLink RX10 245 "MiddleSheet$Lots" "restingPlace" "I" ∈ WS := ws_i (mT2 (List.mem_of_getElem? (i := 107) (by decide +kernel))) (by decide +kernel)
theorem fl_X10_248 : Cond.fieldLink RX10 248 "MiddleSheet$Lots" "found" "Z" ∈ WS := ws_i (mT2 (List.mem_of_getElem? (i := 105) (by decide +kernel))) (by decide +kernel)
theorem fl_X10_252 : Cond.fieldLink RX10 252 "MiddleSheet$Lots" "places" "I" ∈ WS := ws_i (mT2 (List.mem_of_getElem? (i := 103) (by decide +kernel))) (by decide +kernel)
theorem fl_X10_253 : Cond.fieldLink RX10 253 "MiddleSheet$Lots" "sum" "J" ∈ WS := ws_i (mT2 (List.mem_of_getElem? (i := 101) (by decide +kernel))) (by decide +kernel)
theorem fl_X10_256 : Cond.fieldLink RX10 256 "MiddleSheet$Lots" "share" "[J" ∈ WS := ws_i (mT2 (List.mem_of_getElem? (i := 99) (by decide +kernel))) (by decide +kernel)
theorem fl_X10_265 : Cond.fieldLink RX10 265 "MiddleSheet$Field" "greatest" "I" ∈ WS := ws_i (mT4 (List.mem_of_getElem? (i := 151) (by decide +kernel))) (by decide +kernel)
theorem fl_X10_268 : Cond.fieldLink RX10 268 "MiddleSheet$Duels" "unbeaten" "I" ∈ WS := ws_i (mT1 (List.mem_of_getElem? (i := 200) (by decide +kernel))) (by decide +kernel)
theorem fl_X10_274 : Cond.fieldLink RX10 274 "MiddleSheet$Standing" "movedVoter" "I" ∈ WS := ws_i (mT2 (List.mem_of_getElem? (i := 144) (by decide +kernel))) (by decide +kernel)
theorem fl_X10_277 : Cond.fieldLink RX10 277 "MiddleSheet$Standing" "movedPlace" "I" ∈ WS := ws_i (mT2 (List.mem_of_getElem? (i := 146) (by decide +kernel))) (by decide +kernel)
theorem fl_X10_280 : Cond.fieldLink RX10 280 "MiddleSheet$Standing" "movedCost" "I" ∈ WS := ws_i (mT2 (List.mem_of_getElem? (i := 148) (by decide +kernel))) (by decide +kernel)
theorem fl_X10_293 : Cond.fieldLink RX10 293 "MiddleSheet$Duels" "pairs" "I" ∈ WS := ws_i (mT1 (List.mem_of_getElem? (i := 198) (by decide +kernel))) (by decide +kernel)
theorem fl_X10_311 : Cond.fieldLink RX10 311 "MiddleSheet$Sheet" "all" "I" ∈ WS := ws_i (mT1 (List.mem_of_getElem? (i := 71) (by decide +kernel))) (by decide +kernel)
theorem fl_X10_314 : Cond.fieldLink RX10 314 "MiddleSheet" "field" "LMiddleSheet$Field;" ∈ WS := ws_i (mT2 (List.mem_of_getElem? (i := 194) (by decide +kernel))) (by decide +kernel)
theorem fl_X11_9 : Cond.fieldLink RX11 9 "MiddleSheetModel" "text" "[B" ∈ WS := ws_i (mT5 (List.mem_of_getElem? (i := 232) (by decide +kernel))) (by decide +kernel)
theorem fl_X11_15 : Cond.fieldLink RX11 15 "MiddleSheetModel" "voterX" "[[I" ∈ WS := ws_i (mT5 (List.mem_of_getElem? (i := 238) (by decide +kernel))) (by decide +kernel)
theorem fl_X11_18 : Cond.fieldLink RX11 18 "MiddleSheetModel" "voterY" "[[I" ∈ WS := ws_i (mT5 (List.mem_of_getElem? (i := 239) (by decide +kernel))) (by decide +kernel)
theorem fl_X11_21 : Cond.fieldLink RX11 21 "MiddleSheetModel" "weight" "[[I" ∈ WS := ws_i (mT6 (List.mem_of_getElem? (i := 0) (by decide +kernel))) (by decide +kernel)
theorem fl_X11_24 : Cond.fieldLink RX11 24 "MiddleSheetModel" "measure" "[[I" ∈ WS := ws_i (mT6 (List.mem_of_getElem? (i := 1) (by decide +kernel))) (by decide +kernel)
theorem fl_X11_27 : Cond.fieldLink RX11 27 "MiddleSheetModel" "stretchA" "[[I" ∈ WS := ws_i (mT6 (List.mem_of_getElem? (i := 2) (by decide +kernel))) (by decide +kernel)
theorem fl_X11_30 : Cond.fieldLink RX11 30 "MiddleSheetModel" "stretchB" "[[I" ∈ WS := ws_i (mT6 (List.mem_of_getElem? (i := 3) (by decide +kernel))) (by decide +kernel)
theorem fl_X11_33 : Cond.fieldLink RX11 33 "MiddleSheetModel" "placeX" "[[I" ∈ WS := ws_i (mT6 (List.mem_of_getElem? (i := 4) (by decide +kernel))) (by decide +kernel)
theorem fl_X11_36 : Cond.fieldLink RX11 36 "MiddleSheetModel" "placeY" "[[I" ∈ WS := ws_i (mT6 (List.mem_of_getElem? (i := 5) (by decide +kernel))) (by decide +kernel)
theorem fl_X11_39 : Cond.fieldLink RX11 39 "MiddleSheetModel" "voterMany" "[I" ∈ WS := ws_i (mT6 (List.mem_of_getElem? (i := 6) (by decide +kernel))) (by decide +kernel)
theorem fl_X11_43 : Cond.fieldLink RX11 43 "MiddleSheetModel" "placeMany" "[I" ∈ WS := ws_i (mT6 (List.mem_of_getElem? (i := 7) (by decide +kernel))) (by decide +kernel)
theorem fl_X11_46 : Cond.fieldLink RX11 46 "MiddleSheetModel" "winKind" "[I" ∈ WS := ws_i (mT6 (List.mem_of_getElem? (i := 8) (by decide +kernel))) (by decide +kernel)
theorem fl_X11_49 : Cond.fieldLink RX11 49 "MiddleSheetModel" "winA" "[I" ∈ WS := ws_i (mT6 (List.mem_of_getElem? (i := 9) (by decide +kernel))) (by decide +kernel)
theorem fl_X11_52 : Cond.fieldLink RX11 52 "MiddleSheetModel" "winB" "[I" ∈ WS := ws_i (mT6 (List.mem_of_getElem? (i := 10) (by decide +kernel))) (by decide +kernel)
theorem fl_X11_65 : Cond.fieldLink RX11 65 "MiddleSheetModel" "measures" "[Ljava/lang/String;" ∈ WS := ws_i (mT6 (List.mem_of_getElem? (i := 15) (by decide +kernel))) (by decide +kernel)
theorem fl_X11_69 : Cond.fieldLink RX11 69 "MiddleSheetModel" "lineA" "[I" ∈ WS := ws_i (mT6 (List.mem_of_getElem? (i := 16) (by decide +kernel))) (by decide +kernel)
theorem fl_X11_72 : Cond.fieldLink RX11 72 "MiddleSheetModel" "lineB" "[I" ∈ WS := ws_i (mT6 (List.mem_of_getElem? (i := 17) (by decide +kernel))) (by decide +kernel)
theorem fl_X11_75 : Cond.fieldLink RX11 75 "MiddleSheetModel" "lineC" "[I" ∈ WS := ws_i (mT6 (List.mem_of_getElem? (i := 18) (by decide +kernel))) (by decide +kernel)
theorem fl_X11_78 : Cond.fieldLink RX11 78 "MiddleSheetModel" "middleX" "[J" ∈ WS := ws_i (mT6 (List.mem_of_getElem? (i := 22) (by decide +kernel))) (by decide +kernel)
theorem fl_X11_82 : Cond.fieldLink RX11 82 "MiddleSheetModel" "middleY" "[J" ∈ WS := ws_i (mT6 (List.mem_of_getElem? (i := 23) (by decide +kernel))) (by decide +kernel)
theorem fl_X11_85 : Cond.fieldLink RX11 85 "MiddleSheetModel" "middleN" "[J" ∈ WS := ws_i (mT6 (List.mem_of_getElem? (i := 24) (by decide +kernel))) (by decide +kernel)
theorem fl_X11_88 : Cond.fieldLink RX11 88 "MiddleSheetModel" "pieceOf" "[I" ∈ WS := ws_i (mT6 (List.mem_of_getElem? (i := 27) (by decide +kernel))) (by decide +kernel)
theorem fl_X11_91 : Cond.fieldLink RX11 91 "MiddleSheetModel" "row" "[I" ∈ WS := ws_i (mT6 (List.mem_of_getElem? (i := 28) (by decide +kernel))) (by decide +kernel)
theorem fl_X11_94 : Cond.fieldLink RX11 94 "MiddleSheetModel" "steps" "[I" ∈ WS := ws_i (mT6 (List.mem_of_getElem? (i := 31) (by decide +kernel))) (by decide +kernel)
theorem fl_X11_99 : Cond.fieldLink RX11 99 "MiddleSheetModel" "gains" "[[J" ∈ WS := ws_i (mT6 (List.mem_of_getElem? (i := 32) (by decide +kernel))) (by decide +kernel)
theorem fl_X11_102 : Cond.fieldLink RX11 102 "MiddleSheetModel" "shares" "[J" ∈ WS := ws_i (mT6 (List.mem_of_getElem? (i := 33) (by decide +kernel))) (by decide +kernel)
theorem fl_X11_105 : Cond.fieldLink RX11 105 "MiddleSheetModel" "wasX" "[I" ∈ WS := ws_i (mT6 (List.mem_of_getElem? (i := 34) (by decide +kernel))) (by decide +kernel)
theorem fl_X11_108 : Cond.fieldLink RX11 108 "MiddleSheetModel" "wasY" "[I" ∈ WS := ws_i (mT6 (List.mem_of_getElem? (i := 35) (by decide +kernel))) (by decide +kernel)
theorem fl_X11_111 : Cond.fieldLink RX11 111 "MiddleSheetModel" "kept" "[[I" ∈ WS := ws_i (mT6 (List.mem_of_getElem? (i := 39) (by decide +kernel))) (by decide +kernel)
theorem fl_X11_114 : Cond.fieldLink RX11 114 "MiddleSheetModel" "textMany" "I" ∈ WS := ws_i (mT5 (List.mem_of_getElem? (i := 233) (by decide +kernel))) (by decide +kernel)
theorem fl_X11_126 : Cond.fieldLink RX11 126 "MiddleSheetModel" "at" "I" ∈ WS := ws_i (mT5 (List.mem_of_getElem? (i := 234) (by decide +kernel))) (by decide +kernel)
theorem fl_X11_129 : Cond.fieldLink RX11 129 "MiddleSheetModel" "end0" "I" ∈ WS := ws_i (mT5 (List.mem_of_getElem? (i := 235) (by decide +kernel))) (by decide +kernel)
theorem fl_X11_147 : Cond.fieldLink RX11 147 "MiddleSheetModel" "faultAt" "I" ∈ WS := ws_i (mT5 (List.mem_of_getElem? (i := 236) (by decide +kernel))) (by decide +kernel)
theorem fl_X11_153 : Cond.fieldLink RX11 153 "MiddleSheetModel" "value0" "I" ∈ WS := ws_i (mT5 (List.mem_of_getElem? (i := 237) (by decide +kernel))) (by decide +kernel)
theorem fl_X11_164 : Cond.fieldLink RX11 164 "MiddleSheetModel" "nearNow" "I" ∈ WS := ws_i (mT6 (List.mem_of_getElem? (i := 11) (by decide +kernel))) (by decide +kernel)
theorem fl_X11_174 : Cond.fieldLink RX11 174 "MiddleSheetModel" "aNow" "I" ∈ WS := ws_i (mT6 (List.mem_of_getElem? (i := 12) (by decide +kernel))) (by decide +kernel)
theorem fl_X11_177 : Cond.fieldLink RX11 177 "MiddleSheetModel" "bNow" "I" ∈ WS := ws_i (mT6 (List.mem_of_getElem? (i := 13) (by decide +kernel))) (by decide +kernel)
theorem fl_X11_182 : Cond.fieldLink RX11 182 "MiddleSheetModel" "hasWin" "Z" ∈ WS := ws_i (mT6 (List.mem_of_getElem? (i := 14) (by decide +kernel))) (by decide +kernel)
theorem fl_X11_231 : Cond.fieldLink RX11 231 "MiddleSheetModel" "moves" "I" ∈ WS := ws_i (mT6 (List.mem_of_getElem? (i := 40) (by decide +kernel))) (by decide +kernel)
theorem fl_X11_234 : Cond.fieldLink RX11 234 "MiddleSheetModel" "isKnown" "Z" ∈ WS := ws_i (mT6 (List.mem_of_getElem? (i := 21) (by decide +kernel))) (by decide +kernel)
theorem fl_X11_288 : Cond.fieldLink RX11 288 "MiddleSheetModel" "lines" "I" ∈ WS := ws_i (mT6 (List.mem_of_getElem? (i := 19) (by decide +kernel))) (by decide +kernel)
theorem fl_X11_317 : Cond.fieldLink RX11 317 "MiddleSheetModel" "middles" "I" ∈ WS := ws_i (mT6 (List.mem_of_getElem? (i := 20) (by decide +kernel))) (by decide +kernel)
theorem fl_X11_336 : Cond.fieldLink RX11 336 "MiddleSheetModel" "farP" "J" ∈ WS := ws_i (mT6 (List.mem_of_getElem? (i := 25) (by decide +kernel))) (by decide +kernel)
theorem fl_X11_340 : Cond.fieldLink RX11 340 "MiddleSheetModel" "farQ" "J" ∈ WS := ws_i (mT6 (List.mem_of_getElem? (i := 26) (by decide +kernel))) (by decide +kernel)
theorem fl_X11_348 : Cond.fieldLink RX11 348 "MiddleSheetModel" "wonMany" "I" ∈ WS := ws_i (mT6 (List.mem_of_getElem? (i := 30) (by decide +kernel))) (by decide +kernel)
theorem fl_X11_351 : Cond.fieldLink RX11 351 "MiddleSheetModel" "pieceMany" "I" ∈ WS := ws_i (mT6 (List.mem_of_getElem? (i := 29) (by decide +kernel))) (by decide +kernel)
theorem fl_X11_410 : Cond.fieldLink RX11 410 "MiddleSheetModel" "doubted" "I" ∈ WS := ws_i (mT6 (List.mem_of_getElem? (i := 36) (by decide +kernel))) (by decide +kernel)
theorem fl_X11_413 : Cond.fieldLink RX11 413 "MiddleSheetModel" "surelyFor" "I" ∈ WS := ws_i (mT6 (List.mem_of_getElem? (i := 37) (by decide +kernel))) (by decide +kernel)
theorem fl_X11_416 : Cond.fieldLink RX11 416 "MiddleSheetModel" "surelyOver" "I" ∈ WS := ws_i (mT6 (List.mem_of_getElem? (i := 38) (by decide +kernel))) (by decide +kernel)
theorem fl_X2_11 : Cond.fieldLink RX2 11 "MiddleSheet$Lines" "a" "[I" ∈ WS := ws_i (mT1 (List.mem_of_getElem? (i := 230) (by decide +kernel))) (by decide +kernel)
theorem fl_X2_15 : Cond.fieldLink RX2 15 "MiddleSheet$Lines" "b" "[I" ∈ WS := ws_i (mT1 (List.mem_of_getElem? (i := 234) (by decide +kernel))) (by decide +kernel)
theorem fl_X2_18 : Cond.fieldLink RX2 18 "MiddleSheet$Lines" "c" "[I" ∈ WS := ws_i (mT1 (List.mem_of_getElem? (i := 238) (by decide +kernel))) (by decide +kernel)
theorem fl_X2_21 : Cond.fieldLink RX2 21 "MiddleSheet$Lines" "voterState" "I" ∈ WS := ws_i (mT2 (List.mem_of_getElem? (i := 6) (by decide +kernel))) (by decide +kernel)
theorem fl_X2_25 : Cond.fieldLink RX2 25 "MiddleSheet$Lines" "sheet" "LMiddleSheet$Sheet;" ∈ WS := ws_i (mT1 (List.mem_of_getElem? (i := 228) (by decide +kernel))) (by decide +kernel)
theorem fl_X2_29 : Cond.fieldLink RX2 29 "MiddleSheet$Sheet" "voterState" "I" ∈ WS := ws_i (mT1 (List.mem_of_getElem? (i := 93) (by decide +kernel))) (by decide +kernel)
theorem fl_X2_32 : Cond.fieldLink RX2 32 "MiddleSheet$Lines" "size" "I" ∈ WS := ws_i (mT2 (List.mem_of_getElem? (i := 2) (by decide +kernel))) (by decide +kernel)
theorem fl_X2_35 : Cond.fieldLink RX2 35 "MiddleSheet$Sheet" "voters" "I" ∈ WS := ws_i (mT1 (List.mem_of_getElem? (i := 36) (by decide +kernel))) (by decide +kernel)
theorem fl_X2_42 : Cond.fieldLink RX2 42 "MiddleSheet$Sheet" "y" "[I" ∈ WS := ws_i (mT1 (List.mem_of_getElem? (i := 52) (by decide +kernel))) (by decide +kernel)
theorem fl_X2_45 : Cond.fieldLink RX2 45 "MiddleSheet$Sheet" "x" "[I" ∈ WS := ws_i (mT1 (List.mem_of_getElem? (i := 46) (by decide +kernel))) (by decide +kernel)
theorem fl_X2_60 : Cond.fieldLink RX2 60 "MiddleSheet$Sheet" "weight" "[I" ∈ WS := ws_i (mT1 (List.mem_of_getElem? (i := 58) (by decide +kernel))) (by decide +kernel)
theorem fl_X3_9 : Cond.fieldLink RX3 9 "MiddleSheet$Lots" "gain" "[I" ∈ WS := ws_i (mT2 (List.mem_of_getElem? (i := 96) (by decide +kernel))) (by decide +kernel)
theorem fl_X3_15 : Cond.fieldLink RX3 15 "MiddleSheet$Lots" "pfaffian" "[J" ∈ WS := ws_i (mT2 (List.mem_of_getElem? (i := 97) (by decide +kernel))) (by decide +kernel)
theorem fl_X3_19 : Cond.fieldLink RX3 19 "MiddleSheet$Lots" "share" "[J" ∈ WS := ws_i (mT2 (List.mem_of_getElem? (i := 98) (by decide +kernel))) (by decide +kernel)
theorem fl_X3_22 : Cond.fieldLink RX3 22 "MiddleSheet$Lots" "restingPlace" "I" ∈ WS := ws_i (mT2 (List.mem_of_getElem? (i := 106) (by decide +kernel))) (by decide +kernel)
theorem fl_X3_26 : Cond.fieldLink RX3 26 "MiddleSheet$Lots" "voterState" "I" ∈ WS := ws_i (mT2 (List.mem_of_getElem? (i := 108) (by decide +kernel))) (by decide +kernel)
theorem fl_X3_29 : Cond.fieldLink RX3 29 "MiddleSheet$Lots" "placeState" "I" ∈ WS := ws_i (mT2 (List.mem_of_getElem? (i := 109) (by decide +kernel))) (by decide +kernel)
theorem fl_X3_32 : Cond.fieldLink RX3 32 "MiddleSheet$Lots" "duels" "LMiddleSheet$Duels;" ∈ WS := ws_i (mT2 (List.mem_of_getElem? (i := 95) (by decide +kernel))) (by decide +kernel)
theorem fl_X3_36 : Cond.fieldLink RX3 36 "MiddleSheet$Duels" "sheet" "LMiddleSheet$Sheet;" ∈ WS := ws_i (mT1 (List.mem_of_getElem? (i := 191) (by decide +kernel))) (by decide +kernel)
theorem fl_X3_42 : Cond.fieldLink RX3 42 "MiddleSheet$Sheet" "voterState" "I" ∈ WS := ws_i (mT1 (List.mem_of_getElem? (i := 97) (by decide +kernel))) (by decide +kernel)
theorem fl_X3_45 : Cond.fieldLink RX3 45 "MiddleSheet$Sheet" "placeState" "I" ∈ WS := ws_i (mT1 (List.mem_of_getElem? (i := 102) (by decide +kernel))) (by decide +kernel)
theorem fl_X3_46 : Cond.fieldLink RX3 46 "MiddleSheet$Sheet" "places" "I" ∈ WS := ws_i (mT1 (List.mem_of_getElem? (i := 73) (by decide +kernel))) (by decide +kernel)
theorem fl_X3_55 : Cond.fieldLink RX3 55 "MiddleSheet$Lots" "places" "I" ∈ WS := ws_i (mT2 (List.mem_of_getElem? (i := 102) (by decide +kernel))) (by decide +kernel)
theorem fl_X3_84 : Cond.fieldLink RX3 84 "MiddleSheet$Lots" "found" "Z" ∈ WS := ws_i (mT2 (List.mem_of_getElem? (i := 104) (by decide +kernel))) (by decide +kernel)
theorem fl_X3_113 : Cond.fieldLink RX3 113 "MiddleSheet$Lots" "sum" "J" ∈ WS := ws_i (mT2 (List.mem_of_getElem? (i := 100) (by decide +kernel))) (by decide +kernel)
theorem fl_X4_11 : Cond.fieldLink RX4 11 "MiddleSheet$Middles" "x" "[J" ∈ WS := ws_i (mT2 (List.mem_of_getElem? (i := 28) (by decide +kernel))) (by decide +kernel)
theorem fl_X4_15 : Cond.fieldLink RX4 15 "MiddleSheet$Middles" "y" "[J" ∈ WS := ws_i (mT2 (List.mem_of_getElem? (i := 30) (by decide +kernel))) (by decide +kernel)
theorem fl_X4_18 : Cond.fieldLink RX4 18 "MiddleSheet$Middles" "n" "[J" ∈ WS := ws_i (mT2 (List.mem_of_getElem? (i := 32) (by decide +kernel))) (by decide +kernel)
theorem fl_X4_21 : Cond.fieldLink RX4 21 "MiddleSheet$Middles" "proofLine" "[I" ∈ WS := ws_i (mT2 (List.mem_of_getElem? (i := 36) (by decide +kernel))) (by decide +kernel)
theorem fl_X4_25 : Cond.fieldLink RX4 25 "MiddleSheet$Middles" "voterState" "I" ∈ WS := ws_i (mT2 (List.mem_of_getElem? (i := 38) (by decide +kernel))) (by decide +kernel)
theorem fl_X4_29 : Cond.fieldLink RX4 29 "MiddleSheet$Middles" "sheet" "LMiddleSheet$Sheet;" ∈ WS := ws_i (mT2 (List.mem_of_getElem? (i := 26) (by decide +kernel))) (by decide +kernel)
theorem fl_X4_33 : Cond.fieldLink RX4 33 "MiddleSheet$Middles" "lines" "LMiddleSheet$Lines;" ∈ WS := ws_i (mT2 (List.mem_of_getElem? (i := 27) (by decide +kernel))) (by decide +kernel)
theorem fl_X4_37 : Cond.fieldLink RX4 37 "MiddleSheet$Sheet" "voterState" "I" ∈ WS := ws_i (mT1 (List.mem_of_getElem? (i := 94) (by decide +kernel))) (by decide +kernel)
theorem fl_X4_45 : Cond.fieldLink RX4 45 "MiddleSheet$Middles" "size" "I" ∈ WS := ws_i (mT2 (List.mem_of_getElem? (i := 34) (by decide +kernel))) (by decide +kernel)
theorem fl_X4_48 : Cond.fieldLink RX4 48 "MiddleSheet$Sheet" "voters" "I" ∈ WS := ws_i (mT1 (List.mem_of_getElem? (i := 37) (by decide +kernel))) (by decide +kernel)
theorem fl_X4_51 : Cond.fieldLink RX4 51 "MiddleSheet$Sheet" "x" "[I" ∈ WS := ws_i (mT1 (List.mem_of_getElem? (i := 44) (by decide +kernel))) (by decide +kernel)
theorem fl_X4_53 : Cond.fieldLink RX4 53 "MiddleSheet$Sheet" "y" "[I" ∈ WS := ws_i (mT1 (List.mem_of_getElem? (i := 50) (by decide +kernel))) (by decide +kernel)
theorem fl_X4_59 : Cond.fieldLink RX4 59 "MiddleSheet$Lines" "size" "I" ∈ WS := ws_i (mT2 (List.mem_of_getElem? (i := 3) (by decide +kernel))) (by decide +kernel)
theorem fl_X4_98 : Cond.fieldLink RX4 98 "MiddleSheet$Sheet" "weight" "[I" ∈ WS := ws_i (mT1 (List.mem_of_getElem? (i := 61) (by decide +kernel))) (by decide +kernel)
theorem fl_X4_119 : Cond.fieldLink RX4 119 "MiddleSheet$Lines" "a" "[I" ∈ WS := ws_i (mT1 (List.mem_of_getElem? (i := 232) (by decide +kernel))) (by decide +kernel)
theorem fl_X4_122 : Cond.fieldLink RX4 122 "MiddleSheet$Lines" "b" "[I" ∈ WS := ws_i (mT1 (List.mem_of_getElem? (i := 236) (by decide +kernel))) (by decide +kernel)
theorem fl_X4_125 : Cond.fieldLink RX4 125 "MiddleSheet$Lines" "c" "[I" ∈ WS := ws_i (mT2 (List.mem_of_getElem? (i := 0) (by decide +kernel))) (by decide +kernel)
theorem fl_X5_11 : Cond.fieldLink RX5 11 "MiddleSheet$Moves" "facts" "[I" ∈ WS := ws_i (mT2 (List.mem_of_getElem? (i := 180) (by decide +kernel))) (by decide +kernel)
theorem fl_X5_15 : Cond.fieldLink RX5 15 "MiddleSheet$Moves" "size" "I" ∈ WS := ws_i (mT2 (List.mem_of_getElem? (i := 181) (by decide +kernel))) (by decide +kernel)
theorem fl_X6_9 : Cond.fieldLink RX6 9 "MiddleSheet$Reader" "text" "[B" ∈ WS := ws_i (mT1 (List.mem_of_getElem? (i := 146) (by decide +kernel))) (by decide +kernel)
theorem fl_X6_18 : Cond.fieldLink RX6 18 "MiddleSheet$Reader" "draft" "LMiddleSheet$Sheet;" ∈ WS := ws_i (mT1 (List.mem_of_getElem? (i := 149) (by decide +kernel))) (by decide +kernel)
theorem fl_X6_22 : Cond.fieldLink RX6 22 "MiddleSheet$Reader" "length" "I" ∈ WS := ws_i (mT1 (List.mem_of_getElem? (i := 148) (by decide +kernel))) (by decide +kernel)
theorem fl_X6_29 : Cond.fieldLink RX6 29 "MiddleSheet$Reader" "measure" "I" ∈ WS := ws_i (mT1 (List.mem_of_getElem? (i := 155) (by decide +kernel))) (by decide +kernel)
theorem fl_X6_32 : Cond.fieldLink RX6 32 "MiddleSheet$Reader" "stretchX" "I" ∈ WS := ws_i (mT1 (List.mem_of_getElem? (i := 156) (by decide +kernel))) (by decide +kernel)
theorem fl_X6_35 : Cond.fieldLink RX6 35 "MiddleSheet$Reader" "stretchY" "I" ∈ WS := ws_i (mT1 (List.mem_of_getElem? (i := 157) (by decide +kernel))) (by decide +kernel)
theorem fl_X6_38 : Cond.fieldLink RX6 38 "MiddleSheet$Reader" "barTold" "Z" ∈ WS := ws_i (mT1 (List.mem_of_getElem? (i := 158) (by decide +kernel))) (by decide +kernel)
theorem fl_X6_42 : Cond.fieldLink RX6 42 "MiddleSheet$Reader" "behind" "I" ∈ WS := ws_i (mT1 (List.mem_of_getElem? (i := 153) (by decide +kernel))) (by decide +kernel)
theorem fl_X6_48 : Cond.fieldLink RX6 48 "MiddleSheet$Reader" "kind" "I" ∈ WS := ws_i (mT1 (List.mem_of_getElem? (i := 151) (by decide +kernel))) (by decide +kernel)
theorem fl_X6_55 : Cond.fieldLink RX6 55 "MiddleSheet$Reader" "start" "I" ∈ WS := ws_i (mT1 (List.mem_of_getElem? (i := 152) (by decide +kernel))) (by decide +kernel)
theorem fl_X6_58 : Cond.fieldLink RX6 58 "MiddleSheet$Sheet" "voters" "I" ∈ WS := ws_i (mT1 (List.mem_of_getElem? (i := 41) (by decide +kernel))) (by decide +kernel)
theorem fl_X6_105 : Cond.fieldLink RX6 105 "MiddleSheet$Reader" "value" "I" ∈ WS := ws_i (mT1 (List.mem_of_getElem? (i := 154) (by decide +kernel))) (by decide +kernel)
theorem fl_X6_114 : Cond.fieldLink RX6 114 "MiddleSheet$Sheet" "places" "I" ∈ WS := ws_i (mT1 (List.mem_of_getElem? (i := 76) (by decide +kernel))) (by decide +kernel)
theorem fl_X6_125 : Cond.fieldLink RX6 125 "MiddleSheet$Sheet" "bar" "I" ∈ WS := ws_i (mT1 (List.mem_of_getElem? (i := 87) (by decide +kernel))) (by decide +kernel)
theorem fl_X6_133 : Cond.fieldLink RX6 133 "MiddleSheet$Sheet" "barA" "I" ∈ WS := ws_i (mT1 (List.mem_of_getElem? (i := 89) (by decide +kernel))) (by decide +kernel)
theorem fl_X6_136 : Cond.fieldLink RX6 136 "MiddleSheet$Sheet" "barB" "I" ∈ WS := ws_i (mT1 (List.mem_of_getElem? (i := 91) (by decide +kernel))) (by decide +kernel)
theorem fl_X7_9 : Cond.fieldLink RX7 9 "MiddleSheet$Round" "q" "J" ∈ WS := ws_i (mT2 (List.mem_of_getElem? (i := 70) (by decide +kernel))) (by decide +kernel)
theorem fl_X7_15 : Cond.fieldLink RX7 15 "MiddleSheet$Round" "voterState" "I" ∈ WS := ws_i (mT2 (List.mem_of_getElem? (i := 73) (by decide +kernel))) (by decide +kernel)
theorem fl_X7_19 : Cond.fieldLink RX7 19 "MiddleSheet$Round" "lines" "LMiddleSheet$Lines;" ∈ WS := ws_i (mT2 (List.mem_of_getElem? (i := 63) (by decide +kernel))) (by decide +kernel)
theorem fl_X7_23 : Cond.fieldLink RX7 23 "MiddleSheet$Lines" "sheet" "LMiddleSheet$Sheet;" ∈ WS := ws_i (mT1 (List.mem_of_getElem? (i := 229) (by decide +kernel))) (by decide +kernel)
theorem fl_X7_29 : Cond.fieldLink RX7 29 "MiddleSheet$Sheet" "voterState" "I" ∈ WS := ws_i (mT1 (List.mem_of_getElem? (i := 96) (by decide +kernel))) (by decide +kernel)
theorem fl_X7_35 : Cond.fieldLink RX7 35 "MiddleSheet$Round" "likely" "I" ∈ WS := ws_i (mT2 (List.mem_of_getElem? (i := 72) (by decide +kernel))) (by decide +kernel)
theorem fl_X7_46 : Cond.fieldLink RX7 46 "MiddleSheet$Round" "p" "J" ∈ WS := ws_i (mT2 (List.mem_of_getElem? (i := 68) (by decide +kernel))) (by decide +kernel)
theorem fl_X7_53 : Cond.fieldLink RX7 53 "MiddleSheet$Round" "x" "I" ∈ WS := ws_i (mT2 (List.mem_of_getElem? (i := 64) (by decide +kernel))) (by decide +kernel)
theorem fl_X7_56 : Cond.fieldLink RX7 56 "MiddleSheet$Round" "y" "I" ∈ WS := ws_i (mT2 (List.mem_of_getElem? (i := 66) (by decide +kernel))) (by decide +kernel)
theorem fl_X7_59 : Cond.fieldLink RX7 59 "MiddleSheet$Lines" "size" "I" ∈ WS := ws_i (mT2 (List.mem_of_getElem? (i := 4) (by decide +kernel))) (by decide +kernel)
theorem fl_X7_74 : Cond.fieldLink RX7 74 "MiddleSheet$Lines" "a" "[I" ∈ WS := ws_i (mT1 (List.mem_of_getElem? (i := 231) (by decide +kernel))) (by decide +kernel)
theorem fl_X7_78 : Cond.fieldLink RX7 78 "MiddleSheet$Lines" "b" "[I" ∈ WS := ws_i (mT1 (List.mem_of_getElem? (i := 235) (by decide +kernel))) (by decide +kernel)
theorem fl_X7_81 : Cond.fieldLink RX7 81 "MiddleSheet$Lines" "c" "[I" ∈ WS := ws_i (mT1 (List.mem_of_getElem? (i := 239) (by decide +kernel))) (by decide +kernel)
theorem fl_X8_9 : Cond.fieldLink RX8 9 "MiddleSheet$Sheet" "x" "[I" ∈ WS := ws_i (mT1 (List.mem_of_getElem? (i := 43) (by decide +kernel))) (by decide +kernel)
theorem fl_X8_15 : Cond.fieldLink RX8 15 "MiddleSheet$Sheet" "y" "[I" ∈ WS := ws_i (mT1 (List.mem_of_getElem? (i := 49) (by decide +kernel))) (by decide +kernel)
theorem fl_X8_18 : Cond.fieldLink RX8 18 "MiddleSheet$Sheet" "weight" "[I" ∈ WS := ws_i (mT1 (List.mem_of_getElem? (i := 55) (by decide +kernel))) (by decide +kernel)
theorem fl_X8_21 : Cond.fieldLink RX8 21 "MiddleSheet$Sheet" "measure" "[I" ∈ WS := ws_i (mT1 (List.mem_of_getElem? (i := 62) (by decide +kernel))) (by decide +kernel)
theorem fl_X8_24 : Cond.fieldLink RX8 24 "MiddleSheet$Sheet" "stretchX" "[I" ∈ WS := ws_i (mT1 (List.mem_of_getElem? (i := 64) (by decide +kernel))) (by decide +kernel)
theorem fl_X8_27 : Cond.fieldLink RX8 27 "MiddleSheet$Sheet" "stretchY" "[I" ∈ WS := ws_i (mT1 (List.mem_of_getElem? (i := 66) (by decide +kernel))) (by decide +kernel)
theorem fl_X8_30 : Cond.fieldLink RX8 30 "MiddleSheet$Sheet" "placeX" "[I" ∈ WS := ws_i (mT1 (List.mem_of_getElem? (i := 78) (by decide +kernel))) (by decide +kernel)
theorem fl_X8_33 : Cond.fieldLink RX8 33 "MiddleSheet$Sheet" "placeY" "[I" ∈ WS := ws_i (mT1 (List.mem_of_getElem? (i := 82) (by decide +kernel))) (by decide +kernel)
theorem fl_X8_36 : Cond.fieldLink RX8 36 "MiddleSheet$Sheet" "voters" "I" ∈ WS := ws_i (mT1 (List.mem_of_getElem? (i := 35) (by decide +kernel))) (by decide +kernel)
theorem fl_X8_40 : Cond.fieldLink RX8 40 "MiddleSheet$Sheet" "all" "I" ∈ WS := ws_i (mT1 (List.mem_of_getElem? (i := 68) (by decide +kernel))) (by decide +kernel)
theorem fl_X8_43 : Cond.fieldLink RX8 43 "MiddleSheet$Sheet" "places" "I" ∈ WS := ws_i (mT1 (List.mem_of_getElem? (i := 72) (by decide +kernel))) (by decide +kernel)
theorem fl_X8_46 : Cond.fieldLink RX8 46 "MiddleSheet$Sheet" "bar" "I" ∈ WS := ws_i (mT1 (List.mem_of_getElem? (i := 86) (by decide +kernel))) (by decide +kernel)
theorem fl_X8_49 : Cond.fieldLink RX8 49 "MiddleSheet$Sheet" "barA" "I" ∈ WS := ws_i (mT1 (List.mem_of_getElem? (i := 88) (by decide +kernel))) (by decide +kernel)
theorem fl_X8_52 : Cond.fieldLink RX8 52 "MiddleSheet$Sheet" "barB" "I" ∈ WS := ws_i (mT1 (List.mem_of_getElem? (i := 90) (by decide +kernel))) (by decide +kernel)
theorem fl_X8_55 : Cond.fieldLink RX8 55 "MiddleSheet$Sheet" "voterState" "I" ∈ WS := ws_i (mT1 (List.mem_of_getElem? (i := 99) (by decide +kernel))) (by decide +kernel)
theorem fl_X8_58 : Cond.fieldLink RX8 58 "MiddleSheet$Sheet" "placeState" "I" ∈ WS := ws_i (mT1 (List.mem_of_getElem? (i := 103) (by decide +kernel))) (by decide +kernel)
theorem fl_X9_9 : Cond.fieldLink RX9 9 "MiddleSheet$Standing" "waysBefore" "[I" ∈ WS := ws_i (mT2 (List.mem_of_getElem? (i := 139) (by decide +kernel))) (by decide +kernel)
theorem fl_X9_15 : Cond.fieldLink RX9 15 "MiddleSheet$Standing" "waysBehind" "[I" ∈ WS := ws_i (mT2 (List.mem_of_getElem? (i := 140) (by decide +kernel))) (by decide +kernel)
theorem fl_X9_18 : Cond.fieldLink RX9 18 "MiddleSheet$Standing" "lost" "[I" ∈ WS := ws_i (mT2 (List.mem_of_getElem? (i := 141) (by decide +kernel))) (by decide +kernel)
theorem fl_X9_21 : Cond.fieldLink RX9 21 "MiddleSheet$Standing" "won" "[I" ∈ WS := ws_i (mT2 (List.mem_of_getElem? (i := 142) (by decide +kernel))) (by decide +kernel)
theorem fl_X9_24 : Cond.fieldLink RX9 24 "MiddleSheet$Standing" "movedVoter" "I" ∈ WS := ws_i (mT2 (List.mem_of_getElem? (i := 143) (by decide +kernel))) (by decide +kernel)
theorem fl_X9_28 : Cond.fieldLink RX9 28 "MiddleSheet$Standing" "movedPlace" "I" ∈ WS := ws_i (mT2 (List.mem_of_getElem? (i := 145) (by decide +kernel))) (by decide +kernel)
theorem fl_X9_31 : Cond.fieldLink RX9 31 "MiddleSheet$Standing" "movedCost" "I" ∈ WS := ws_i (mT2 (List.mem_of_getElem? (i := 147) (by decide +kernel))) (by decide +kernel)
theorem fl_X9_34 : Cond.fieldLink RX9 34 "MiddleSheet$Standing" "voterState" "I" ∈ WS := ws_i (mT2 (List.mem_of_getElem? (i := 149) (by decide +kernel))) (by decide +kernel)
theorem fl_X9_37 : Cond.fieldLink RX9 37 "MiddleSheet$Standing" "placeState" "I" ∈ WS := ws_i (mT2 (List.mem_of_getElem? (i := 150) (by decide +kernel))) (by decide +kernel)
theorem fl_X9_40 : Cond.fieldLink RX9 40 "MiddleSheet$Standing" "duels" "LMiddleSheet$Duels;" ∈ WS := ws_i (mT2 (List.mem_of_getElem? (i := 137) (by decide +kernel))) (by decide +kernel)
theorem fl_X9_44 : Cond.fieldLink RX9 44 "MiddleSheet$Duels" "sheet" "LMiddleSheet$Sheet;" ∈ WS := ws_i (mT1 (List.mem_of_getElem? (i := 190) (by decide +kernel))) (by decide +kernel)
theorem fl_X9_50 : Cond.fieldLink RX9 50 "MiddleSheet$Standing" "sheet" "LMiddleSheet$Sheet;" ∈ WS := ws_i (mT2 (List.mem_of_getElem? (i := 138) (by decide +kernel))) (by decide +kernel)
theorem fl_X9_51 : Cond.fieldLink RX9 51 "MiddleSheet$Sheet" "voterState" "I" ∈ WS := ws_i (mT1 (List.mem_of_getElem? (i := 95) (by decide +kernel))) (by decide +kernel)
theorem fl_X9_54 : Cond.fieldLink RX9 54 "MiddleSheet$Sheet" "placeState" "I" ∈ WS := ws_i (mT1 (List.mem_of_getElem? (i := 101) (by decide +kernel))) (by decide +kernel)
theorem fl_X9_55 : Cond.fieldLink RX9 55 "MiddleSheet$Sheet" "voters" "I" ∈ WS := ws_i (mT1 (List.mem_of_getElem? (i := 39) (by decide +kernel))) (by decide +kernel)
theorem fl_X9_58 : Cond.fieldLink RX9 58 "MiddleSheet$Sheet" "x" "[I" ∈ WS := ws_i (mT1 (List.mem_of_getElem? (i := 45) (by decide +kernel))) (by decide +kernel)
theorem fl_X9_61 : Cond.fieldLink RX9 61 "MiddleSheet$Sheet" "y" "[I" ∈ WS := ws_i (mT1 (List.mem_of_getElem? (i := 51) (by decide +kernel))) (by decide +kernel)
theorem fl_X9_68 : Cond.fieldLink RX9 68 "MiddleSheet$Sheet" "places" "I" ∈ WS := ws_i (mT1 (List.mem_of_getElem? (i := 75) (by decide +kernel))) (by decide +kernel)
theorem fl_X9_75 : Cond.fieldLink RX9 75 "MiddleSheet$Sheet" "placeX" "[I" ∈ WS := ws_i (mT1 (List.mem_of_getElem? (i := 79) (by decide +kernel))) (by decide +kernel)
theorem fl_X9_78 : Cond.fieldLink RX9 78 "MiddleSheet$Sheet" "placeY" "[I" ∈ WS := ws_i (mT1 (List.mem_of_getElem? (i := 83) (by decide +kernel))) (by decide +kernel)
theorem fl_X9_81 : Cond.fieldLink RX9 81 "MiddleSheet$Sheet" "weight" "[I" ∈ WS := ws_i (mT1 (List.mem_of_getElem? (i := 56) (by decide +kernel))) (by decide +kernel)
theorem fl_X9_131 : Cond.fieldLink RX9 131 "MiddleSheet$Sheet" "all" "I" ∈ WS := ws_i (mT1 (List.mem_of_getElem? (i := 70) (by decide +kernel))) (by decide +kernel)
theorem ml_J0_335 : Cond.methodLink RJ0 335 yJ0_coder_7d493 ∈ WS := ws_i (mT3 (List.mem_of_getElem? (i := 35) (by decide +kernel))) (by decide +kernel)
theorem ml_J0_492 : Cond.methodLink RJ0 492 yJ0_isLatin1_aae02 ∈ WS := ws_i (mT3 (List.mem_of_getElem? (i := 45) (by decide +kernel))) (by decide +kernel)
theorem ml_J0_495 : Cond.methodLink RJ0 495 yJ1_charAt_3b067 ∈ WS := ws_i (mT3 (List.mem_of_getElem? (i := 49) (by decide +kernel))) (by decide +kernel)
theorem ml_J0_498 : Cond.methodLink RJ0 498 yJ2_charAt_3b067 ∈ WS := ws_i (mT3 (List.mem_of_getElem? (i := 60) (by decide +kernel))) (by decide +kernel)
theorem ml_J0_1059 : Cond.methodLink RJ0 1059 yJ3_checkIndex_8e157 ∈ WS := ws_i (mT3 (List.mem_of_getElem? (i := 57) (by decide +kernel))) (by decide +kernel)
theorem ml_J1_9 : Cond.methodLink RJ1 9 yJ0_checkIndex_df160 ∈ WS := ws_i (mT3 (List.mem_of_getElem? (i := 52) (by decide +kernel))) (by decide +kernel)
theorem ml_J2_48 : Cond.methodLink RJ2 48 yJ2_length_9d52b ∈ WS := ws_i (mT3 (List.mem_of_getElem? (i := 66) (by decide +kernel))) (by decide +kernel)
theorem ml_J2_67 : Cond.methodLink RJ2 67 yJ2_checkIndex_2214a ∈ WS := ws_i (mT3 (List.mem_of_getElem? (i := 63) (by decide +kernel))) (by decide +kernel)
theorem ml_J2_71 : Cond.methodLink RJ2 71 yJ2_getChar_3b067 ∈ WS := ws_i (mT3 (List.mem_of_getElem? (i := 70) (by decide +kernel))) (by decide +kernel)
theorem ml_J2_414 : Cond.methodLink RJ2 414 yJ0_checkIndex_df160 ∈ WS := ws_i (mT3 (List.mem_of_getElem? (i := 69) (by decide +kernel))) (by decide +kernel)
theorem ml_L_9 : Cond.methodLink RL 9 yX10_init ∈ WS := ws_i (mT1 (List.mem_of_getElem? (i := 23) (by decide +kernel))) (by decide +kernel)
theorem ml_L_12 : Cond.methodLink RL 12 yX11_init ∈ WS := ws_i (mT5 (List.mem_of_getElem? (i := 218) (by decide +kernel))) (by decide +kernel)
theorem ml_L_13 : Cond.methodLink RL 13 yX10_feed ∈ WS := ws_i (mT2 (List.mem_of_getElem? (i := 219) (by decide +kernel))) (by decide +kernel)
theorem ml_L_17 : Cond.methodLink RL 17 yX11_feed ∈ WS := ws_i (mT6 (List.mem_of_getElem? (i := 140) (by decide +kernel))) (by decide +kernel)
theorem ml_L_18 : Cond.methodLink RL 18 yX10_end ∈ WS := ws_i (mT2 (List.mem_of_getElem? (i := 227) (by decide +kernel))) (by decide +kernel)
theorem ml_L_22 : Cond.methodLink RL 22 yX11_end ∈ WS := ws_i (mT6 (List.mem_of_getElem? (i := 148) (by decide +kernel))) (by decide +kernel)
theorem ml_L_23 : Cond.methodLink RL 23 yX10_fault ∈ WS := ws_i (mT2 (List.mem_of_getElem? (i := 231) (by decide +kernel))) (by decide +kernel)
theorem ml_L_27 : Cond.methodLink RL 27 yX11_fault ∈ WS := ws_i (mT6 (List.mem_of_getElem? (i := 155) (by decide +kernel))) (by decide +kernel)
theorem ml_L_28 : Cond.methodLink RL 28 yX10_sheet ∈ WS := ws_i (mT3 (List.mem_of_getElem? (i := 131) (by decide +kernel))) (by decide +kernel)
theorem ml_L_31 : Cond.methodLink RL 31 yX11_sheet ∈ WS := ws_i (mT6 (List.mem_of_getElem? (i := 226) (by decide +kernel))) (by decide +kernel)
theorem ml_L_32 : Cond.methodLink RL 32 yX10_voter ∈ WS := ws_i (mT3 (List.mem_of_getElem? (i := 142) (by decide +kernel))) (by decide +kernel)
theorem ml_L_36 : Cond.methodLink RL 36 yX11_voter ∈ WS := ws_i (mT6 (List.mem_of_getElem? (i := 234) (by decide +kernel))) (by decide +kernel)
theorem ml_L_37 : Cond.methodLink RL 37 yX10_place ∈ WS := ws_i (mT3 (List.mem_of_getElem? (i := 150) (by decide +kernel))) (by decide +kernel)
theorem ml_L_40 : Cond.methodLink RL 40 yX11_place ∈ WS := ws_i (mT7 (List.mem_of_getElem? (i := 2) (by decide +kernel))) (by decide +kernel)
theorem ml_L_41 : Cond.methodLink RL 41 yX10_propose ∈ WS := ws_i (mT3 (List.mem_of_getElem? (i := 158) (by decide +kernel))) (by decide +kernel)
theorem ml_L_44 : Cond.methodLink RL 44 yX11_propose ∈ WS := ws_i (mT7 (List.mem_of_getElem? (i := 14) (by decide +kernel))) (by decide +kernel)
theorem ml_L_45 : Cond.methodLink RL 45 yX10_way ∈ WS := ws_i (mT3 (List.mem_of_getElem? (i := 166) (by decide +kernel))) (by decide +kernel)
theorem ml_L_49 : Cond.methodLink RL 49 yX11_way ∈ WS := ws_i (mT7 (List.mem_of_getElem? (i := 22) (by decide +kernel))) (by decide +kernel)
theorem ml_L_50 : Cond.methodLink RL 50 yX10_votes ∈ WS := ws_i (mT3 (List.mem_of_getElem? (i := 184) (by decide +kernel))) (by decide +kernel)
theorem ml_L_53 : Cond.methodLink RL 53 yX11_votes ∈ WS := ws_i (mT7 (List.mem_of_getElem? (i := 35) (by decide +kernel))) (by decide +kernel)
theorem ml_L_54 : Cond.methodLink RL 54 yX10_beats ∈ WS := ws_i (mT3 (List.mem_of_getElem? (i := 219) (by decide +kernel))) (by decide +kernel)
theorem ml_L_58 : Cond.methodLink RL 58 yX11_beats ∈ WS := ws_i (mT7 (List.mem_of_getElem? (i := 47) (by decide +kernel))) (by decide +kernel)
theorem ml_L_59 : Cond.methodLink RL 59 yX10_wins ∈ WS := ws_i (mT3 (List.mem_of_getElem? (i := 227) (by decide +kernel))) (by decide +kernel)
theorem ml_L_62 : Cond.methodLink RL 62 yX11_wins ∈ WS := ws_i (mT7 (List.mem_of_getElem? (i := 67) (by decide +kernel))) (by decide +kernel)
theorem ml_L_63 : Cond.methodLink RL 63 yX10_line ∈ WS := ws_i (mT3 (List.mem_of_getElem? (i := 237) (by decide +kernel))) (by decide +kernel)
theorem ml_L_66 : Cond.methodLink RL 66 yX11_line ∈ WS := ws_i (mT7 (List.mem_of_getElem? (i := 72) (by decide +kernel))) (by decide +kernel)
theorem ml_L_67 : Cond.methodLink RL 67 yX10_middle ∈ WS := ws_i (mT4 (List.mem_of_getElem? (i := 35) (by decide +kernel))) (by decide +kernel)
theorem ml_L_70 : Cond.methodLink RL 70 yX11_middle ∈ WS := ws_i (mT7 (List.mem_of_getElem? (i := 116) (by decide +kernel))) (by decide +kernel)
theorem ml_L_71 : Cond.methodLink RL 71 yX10_proof ∈ WS := ws_i (mT4 (List.mem_of_getElem? (i := 94) (by decide +kernel))) (by decide +kernel)
theorem ml_L_75 : Cond.methodLink RL 75 yX11_proof ∈ WS := ws_i (mT7 (List.mem_of_getElem? (i := 120) (by decide +kernel))) (by decide +kernel)
theorem ml_L_76 : Cond.methodLink RL 76 yX10_round ∈ WS := ws_i (mT4 (List.mem_of_getElem? (i := 98) (by decide +kernel))) (by decide +kernel)
theorem ml_L_79 : Cond.methodLink RL 79 yX11_round ∈ WS := ws_i (mT7 (List.mem_of_getElem? (i := 129) (by decide +kernel))) (by decide +kernel)
theorem ml_L_80 : Cond.methodLink RL 80 yX10_winSet ∈ WS := ws_i (mT4 (List.mem_of_getElem? (i := 128) (by decide +kernel))) (by decide +kernel)
theorem ml_L_83 : Cond.methodLink RL 83 yX11_winSet ∈ WS := ws_i (mT7 (List.mem_of_getElem? (i := 138) (by decide +kernel))) (by decide +kernel)
theorem ml_L_84 : Cond.methodLink RL 84 yX10_piece ∈ WS := ws_i (mT4 (List.mem_of_getElem? (i := 216) (by decide +kernel))) (by decide +kernel)
theorem ml_L_88 : Cond.methodLink RL 88 yX11_piece ∈ WS := ws_i (mT7 (List.mem_of_getElem? (i := 150) (by decide +kernel))) (by decide +kernel)
theorem ml_L_89 : Cond.methodLink RL 89 yX10_led ∈ WS := ws_i (mT4 (List.mem_of_getElem? (i := 228) (by decide +kernel))) (by decide +kernel)
theorem ml_L_92 : Cond.methodLink RL 92 yX11_led ∈ WS := ws_i (mT7 (List.mem_of_getElem? (i := 154) (by decide +kernel))) (by decide +kernel)
theorem ml_L_93 : Cond.methodLink RL 93 yX10_best ∈ WS := ws_i (mT5 (List.mem_of_getElem? (i := 5) (by decide +kernel))) (by decide +kernel)
theorem ml_L_96 : Cond.methodLink RL 96 yX11_best ∈ WS := ws_i (mT7 (List.mem_of_getElem? (i := 162) (by decide +kernel))) (by decide +kernel)
theorem ml_L_97 : Cond.methodLink RL 97 yX10_between ∈ WS := ws_i (mT5 (List.mem_of_getElem? (i := 22) (by decide +kernel))) (by decide +kernel)
theorem ml_L_100 : Cond.methodLink RL 100 yX11_between ∈ WS := ws_i (mT7 (List.mem_of_getElem? (i := 178) (by decide +kernel))) (by decide +kernel)
theorem ml_L_101 : Cond.methodLink RL 101 yX10_rest ∈ WS := ws_i (mT5 (List.mem_of_getElem? (i := 34) (by decide +kernel))) (by decide +kernel)
theorem ml_L_104 : Cond.methodLink RL 104 yX11_rest ∈ WS := ws_i (mT7 (List.mem_of_getElem? (i := 182) (by decide +kernel))) (by decide +kernel)
theorem ml_L_105 : Cond.methodLink RL 105 yX10_lot ∈ WS := ws_i (mT5 (List.mem_of_getElem? (i := 86) (by decide +kernel))) (by decide +kernel)
theorem ml_L_108 : Cond.methodLink RL 108 yX11_lot ∈ WS := ws_i (mT7 (List.mem_of_getElem? (i := 194) (by decide +kernel))) (by decide +kernel)
theorem ml_L_109 : Cond.methodLink RL 109 yX10_need ∈ WS := ws_i (mT5 (List.mem_of_getElem? (i := 90) (by decide +kernel))) (by decide +kernel)
theorem ml_L_112 : Cond.methodLink RL 112 yX11_need ∈ WS := ws_i (mT7 (List.mem_of_getElem? (i := 213) (by decide +kernel))) (by decide +kernel)
theorem ml_L_113 : Cond.methodLink RL 113 yX10_most ∈ WS := ws_i (mT5 (List.mem_of_getElem? (i := 104) (by decide +kernel))) (by decide +kernel)
theorem ml_L_116 : Cond.methodLink RL 116 yX11_most ∈ WS := ws_i (mT7 (List.mem_of_getElem? (i := 221) (by decide +kernel))) (by decide +kernel)
theorem ml_L_117 : Cond.methodLink RL 117 yX10_peace ∈ WS := ws_i (mT5 (List.mem_of_getElem? (i := 108) (by decide +kernel))) (by decide +kernel)
theorem ml_L_120 : Cond.methodLink RL 120 yX11_peace ∈ WS := ws_i (mT7 (List.mem_of_getElem? (i := 225) (by decide +kernel))) (by decide +kernel)
theorem ml_L_121 : Cond.methodLink RL 121 yX10_make ∈ WS := ws_i (mT5 (List.mem_of_getElem? (i := 112) (by decide +kernel))) (by decide +kernel)
theorem ml_L_124 : Cond.methodLink RL 124 yX11_make ∈ WS := ws_i (mT7 (List.mem_of_getElem? (i := 233) (by decide +kernel))) (by decide +kernel)
theorem ml_L_125 : Cond.methodLink RL 125 yX10_join ∈ WS := ws_i (mT5 (List.mem_of_getElem? (i := 144) (by decide +kernel))) (by decide +kernel)
theorem ml_L_128 : Cond.methodLink RL 128 yX11_join ∈ WS := ws_i (mT7 (List.mem_of_getElem? (i := 238) (by decide +kernel))) (by decide +kernel)
theorem ml_L_129 : Cond.methodLink RL 129 yX10_doubt ∈ WS := ws_i (mT5 (List.mem_of_getElem? (i := 162) (by decide +kernel))) (by decide +kernel)
theorem ml_L_132 : Cond.methodLink RL 132 yX11_doubt ∈ WS := ws_i (mT8 (List.mem_of_getElem? (i := 6) (by decide +kernel))) (by decide +kernel)
theorem ml_L_133 : Cond.methodLink RL 133 yX10_move ∈ WS := ws_i (mT5 (List.mem_of_getElem? (i := 175) (by decide +kernel))) (by decide +kernel)
theorem ml_L_136 : Cond.methodLink RL 136 yX11_move ∈ WS := ws_i (mT8 (List.mem_of_getElem? (i := 19) (by decide +kernel))) (by decide +kernel)
theorem ml_L_137 : Cond.methodLink RL 137 yX10_undo ∈ WS := ws_i (mT5 (List.mem_of_getElem? (i := 200) (by decide +kernel))) (by decide +kernel)
theorem ml_L_140 : Cond.methodLink RL 140 yX11_undo ∈ WS := ws_i (mT8 (List.mem_of_getElem? (i := 27) (by decide +kernel))) (by decide +kernel)
theorem ml_L_141 : Cond.methodLink RL 141 yX10_moved ∈ WS := ws_i (mT5 (List.mem_of_getElem? (i := 208) (by decide +kernel))) (by decide +kernel)
theorem ml_L_144 : Cond.methodLink RL 144 yX11_moved ∈ WS := ws_i (mT8 (List.mem_of_getElem? (i := 31) (by decide +kernel))) (by decide +kernel)
theorem ml_L_145 : Cond.methodLink RL 145 yX10_count ∈ WS := ws_i (mT5 (List.mem_of_getElem? (i := 212) (by decide +kernel))) (by decide +kernel)
theorem ml_L_148 : Cond.methodLink RL 148 yX11_count ∈ WS := ws_i (mT8 (List.mem_of_getElem? (i := 36) (by decide +kernel))) (by decide +kernel)
theorem ml_X0_3 : Cond.methodLink RX0 3 objectInit ∈ WS := ws_i (mT1 (List.mem_of_getElem? (i := 188) (by decide +kernel))) (by decide +kernel)
theorem ml_X0_42 : Cond.methodLink RX0 42 yJ7_fill_53178 ∈ WS := ws_i (mT3 (List.mem_of_getElem? (i := 192) (by decide +kernel))) (by decide +kernel)
theorem ml_X0_51 : Cond.methodLink RX0 51 yX0_addVotesOf ∈ WS := ws_i (mT3 (List.mem_of_getElem? (i := 195) (by decide +kernel))) (by decide +kernel)
theorem ml_X0_61 : Cond.methodLink RX0 61 yX0_findBeaters ∈ WS := ws_i (mT3 (List.mem_of_getElem? (i := 200) (by decide +kernel))) (by decide +kernel)
theorem ml_X0_64 : Cond.methodLink RX0 64 yJ6_bitCount_0f7a4 ∈ WS := ws_i (mT3 (List.mem_of_getElem? (i := 212) (by decide +kernel))) (by decide +kernel)
theorem ml_X0_76 : Cond.methodLink RX0 76 yX8_wayTo ∈ WS := ws_i (mT3 (List.mem_of_getElem? (i := 199) (by decide +kernel))) (by decide +kernel)
theorem ml_X0_83 : Cond.methodLink RX0 83 yX0_forOf ∈ WS := ws_i (mT3 (List.mem_of_getElem? (i := 204) (by decide +kernel))) (by decide +kernel)
theorem ml_X0_87 : Cond.methodLink RX0 87 yX8_isEnough ∈ WS := ws_i (mT3 (List.mem_of_getElem? (i := 208) (by decide +kernel))) (by decide +kernel)
theorem ml_X0_91 : Cond.methodLink RX0 91 Lib.Math.max.name ∈ WS := ws_i (mT5 (List.mem_of_getElem? (i := 102) (by decide +kernel))) (by decide +kernel)
theorem ml_X0_96 : Cond.methodLink RX0 96 yX0_greatestAgainst ∈ WS := ws_i (mT5 (List.mem_of_getElem? (i := 98) (by decide +kernel))) (by decide +kernel)
theorem ml_X0_99 : Cond.methodLink RX0 99 yX0_nextFrom ∈ WS := ws_i (mT5 (List.mem_of_getElem? (i := 0) (by decide +kernel))) (by decide +kernel)
theorem ml_X0_102 : Cond.methodLink RX0 102 yX0_isBeaten ∈ WS := ws_i (mT5 (List.mem_of_getElem? (i := 4) (by decide +kernel))) (by decide +kernel)
theorem ml_X0_105 : Cond.methodLink RX0 105 yX0_measureSteps ∈ WS := ws_i (mT5 (List.mem_of_getElem? (i := 13) (by decide +kernel))) (by decide +kernel)
theorem ml_X0_108 : Cond.methodLink RX0 108 yX0_isCovered ∈ WS := ws_i (mT5 (List.mem_of_getElem? (i := 18) (by decide +kernel))) (by decide +kernel)
theorem ml_X1_3 : Cond.methodLink RX1 3 objectInit ∈ WS := ws_i (mT4 (List.mem_of_getElem? (i := 141) (by decide +kernel))) (by decide +kernel)
theorem ml_X1_45 : Cond.methodLink RX1 45 yX1_weigh ∈ WS := ws_i (mT4 (List.mem_of_getElem? (i := 184) (by decide +kernel))) (by decide +kernel)
theorem ml_X1_58 : Cond.methodLink RX1 58 yX8_isEnough ∈ WS := ws_i (mT4 (List.mem_of_getElem? (i := 203) (by decide +kernel))) (by decide +kernel)
theorem ml_X1_62 : Cond.methodLink RX1 62 Lib.Math.max.name ∈ WS := ws_i (mT4 (List.mem_of_getElem? (i := 199) (by decide +kernel))) (by decide +kernel)
theorem ml_X1_68 : Cond.methodLink RX1 68 yJ7_fill_53178 ∈ WS := ws_i (mT4 (List.mem_of_getElem? (i := 188) (by decide +kernel))) (by decide +kernel)
theorem ml_X1_77 : Cond.methodLink RX1 77 yX8_wayTo ∈ WS := ws_i (mT4 (List.mem_of_getElem? (i := 189) (by decide +kernel))) (by decide +kernel)
theorem ml_X1_81 : Cond.methodLink RX1 81 yX1_markWithin ∈ WS := ws_i (mT4 (List.mem_of_getElem? (i := 190) (by decide +kernel))) (by decide +kernel)
theorem ml_X1_85 : Cond.methodLink RX1 85 yX1_sumColumns ∈ WS := ws_i (mT4 (List.mem_of_getElem? (i := 200) (by decide +kernel))) (by decide +kernel)
theorem ml_X1_89 : Cond.methodLink RX1 89 yX8_wayOver ∈ WS := ws_i (mT4 (List.mem_of_getElem? (i := 194) (by decide +kernel))) (by decide +kernel)
theorem ml_X1_95 : Cond.methodLink RX1 95 yX1_markColumn ∈ WS := ws_i (mT4 (List.mem_of_getElem? (i := 195) (by decide +kernel))) (by decide +kernel)
theorem ml_X1_105 : Cond.methodLink RX1 105 yX1_takePiece ∈ WS := ws_i (mT4 (List.mem_of_getElem? (i := 208) (by decide +kernel))) (by decide +kernel)
theorem ml_X1_108 : Cond.methodLink RX1 108 yX1_takePoint ∈ WS := ws_i (mT4 (List.mem_of_getElem? (i := 212) (by decide +kernel))) (by decide +kernel)
theorem ml_X1_111 : Cond.methodLink RX1 111 yX1_refillWinning ∈ WS := ws_i (mT5 (List.mem_of_getElem? (i := 30) (by decide +kernel))) (by decide +kernel)
theorem ml_X10_3 : Cond.methodLink RX10 3 objectInit ∈ WS := ws_i (mT1 (List.mem_of_getElem? (i := 26) (by decide +kernel))) (by decide +kernel)
theorem ml_X10_25 : Cond.methodLink RX10 25 yX0_init ∈ WS := ws_i (mT1 (List.mem_of_getElem? (i := 185) (by decide +kernel))) (by decide +kernel)
theorem ml_X10_34 : Cond.methodLink RX10 34 yX2_init ∈ WS := ws_i (mT1 (List.mem_of_getElem? (i := 224) (by decide +kernel))) (by decide +kernel)
theorem ml_X10_41 : Cond.methodLink RX10 41 yX4_init ∈ WS := ws_i (mT2 (List.mem_of_getElem? (i := 22) (by decide +kernel))) (by decide +kernel)
theorem ml_X10_50 : Cond.methodLink RX10 50 yX7_init ∈ WS := ws_i (mT2 (List.mem_of_getElem? (i := 59) (by decide +kernel))) (by decide +kernel)
theorem ml_X10_59 : Cond.methodLink RX10 59 yX3_init ∈ WS := ws_i (mT2 (List.mem_of_getElem? (i := 91) (by decide +kernel))) (by decide +kernel)
theorem ml_X10_68 : Cond.methodLink RX10 68 yX9_init ∈ WS := ws_i (mT2 (List.mem_of_getElem? (i := 133) (by decide +kernel))) (by decide +kernel)
theorem ml_X10_84 : Cond.methodLink RX10 84 yX6_append ∈ WS := ws_i (mT2 (List.mem_of_getElem? (i := 223) (by decide +kernel))) (by decide +kernel)
theorem ml_X10_88 : Cond.methodLink RX10 88 yX6_findFault ∈ WS := ws_i (mT2 (List.mem_of_getElem? (i := 235) (by decide +kernel))) (by decide +kernel)
theorem ml_X10_95 : Cond.methodLink RX10 95 yX8_takeFrom ∈ WS := ws_i (mT3 (List.mem_of_getElem? (i := 135) (by decide +kernel))) (by decide +kernel)
theorem ml_X10_104 : Cond.methodLink RX10 104 yX8_hasVoter ∈ WS := ws_i (mT3 (List.mem_of_getElem? (i := 146) (by decide +kernel))) (by decide +kernel)
theorem ml_X10_127 : Cond.methodLink RX10 127 yX8_hasPlace ∈ WS := ws_i (mT3 (List.mem_of_getElem? (i := 154) (by decide +kernel))) (by decide +kernel)
theorem ml_X10_136 : Cond.methodLink RX10 136 yX10_isPoint ∈ WS := ws_i (mT3 (List.mem_of_getElem? (i := 162) (by decide +kernel))) (by decide +kernel)
theorem ml_X10_143 : Cond.methodLink RX10 143 yX8_addPlace ∈ WS := ws_i (mT3 (List.mem_of_getElem? (i := 165) (by decide +kernel))) (by decide +kernel)
theorem ml_X10_147 : Cond.methodLink RX10 147 yX8_wayTo ∈ WS := ws_i (mT3 (List.mem_of_getElem? (i := 170) (by decide +kernel))) (by decide +kernel)
theorem ml_X10_151 : Cond.methodLink RX10 151 yX0_refresh ∈ WS := ws_i (mT3 (List.mem_of_getElem? (i := 188) (by decide +kernel))) (by decide +kernel)
theorem ml_X10_154 : Cond.methodLink RX10 154 yX0_forOf ∈ WS := ws_i (mT3 (List.mem_of_getElem? (i := 218) (by decide +kernel))) (by decide +kernel)
theorem ml_X10_158 : Cond.methodLink RX10 158 yX0_isBeaten ∈ WS := ws_i (mT3 (List.mem_of_getElem? (i := 223) (by decide +kernel))) (by decide +kernel)
theorem ml_X10_161 : Cond.methodLink RX10 161 yX8_weightFor ∈ WS := ws_i (mT3 (List.mem_of_getElem? (i := 231) (by decide +kernel))) (by decide +kernel)
theorem ml_X10_164 : Cond.methodLink RX10 164 yX8_isEnough ∈ WS := ws_i (mT3 (List.mem_of_getElem? (i := 236) (by decide +kernel))) (by decide +kernel)
theorem ml_X10_167 : Cond.methodLink RX10 167 yX2_refresh ∈ WS := ws_i (mT4 (List.mem_of_getElem? (i := 1) (by decide +kernel))) (by decide +kernel)
theorem ml_X10_179 : Cond.methodLink RX10 179 yX4_refresh ∈ WS := ws_i (mT4 (List.mem_of_getElem? (i := 39) (by decide +kernel))) (by decide +kernel)
theorem ml_X10_192 : Cond.methodLink RX10 192 yX7_refresh ∈ WS := ws_i (mT4 (List.mem_of_getElem? (i := 102) (by decide +kernel))) (by decide +kernel)
theorem ml_X10_204 : Cond.methodLink RX10 204 yX10_fieldFrom ∈ WS := ws_i (mT4 (List.mem_of_getElem? (i := 132) (by decide +kernel))) (by decide +kernel)
theorem ml_X10_213 : Cond.methodLink RX10 213 yX1_cutPieces ∈ WS := ws_i (mT4 (List.mem_of_getElem? (i := 204) (by decide +kernel))) (by decide +kernel)
theorem ml_X10_219 : Cond.methodLink RX10 219 yX1_sizeOf ∈ WS := ws_i (mT4 (List.mem_of_getElem? (i := 220) (by decide +kernel))) (by decide +kernel)
theorem ml_X10_223 : Cond.methodLink RX10 223 yX1_firstOf ∈ WS := ws_i (mT4 (List.mem_of_getElem? (i := 224) (by decide +kernel))) (by decide +kernel)
theorem ml_X10_226 : Cond.methodLink RX10 226 yX0_measureSteps ∈ WS := ws_i (mT4 (List.mem_of_getElem? (i := 232) (by decide +kernel))) (by decide +kernel)
theorem ml_X10_232 : Cond.methodLink RX10 232 yX0_walk ∈ WS := ws_i (mT4 (List.mem_of_getElem? (i := 236) (by decide +kernel))) (by decide +kernel)
theorem ml_X10_235 : Cond.methodLink RX10 235 yX0_reachingAll ∈ WS := ws_i (mT5 (List.mem_of_getElem? (i := 9) (by decide +kernel))) (by decide +kernel)
theorem ml_X10_238 : Cond.methodLink RX10 238 yX0_uncovered ∈ WS := ws_i (mT5 (List.mem_of_getElem? (i := 14) (by decide +kernel))) (by decide +kernel)
theorem ml_X10_241 : Cond.methodLink RX10 241 yX1_firstBeatenBy ∈ WS := ws_i (mT5 (List.mem_of_getElem? (i := 26) (by decide +kernel))) (by decide +kernel)
theorem ml_X10_244 : Cond.methodLink RX10 244 yX3_refresh ∈ WS := ws_i (mT5 (List.mem_of_getElem? (i := 38) (by decide +kernel))) (by decide +kernel)
theorem ml_X10_259 : Cond.methodLink RX10 259 yX0_leastNeedy ∈ WS := ws_i (mT5 (List.mem_of_getElem? (i := 94) (by decide +kernel))) (by decide +kernel)
theorem ml_X10_262 : Cond.methodLink RX10 262 yX0_greatestAgainst ∈ WS := ws_i (mT5 (List.mem_of_getElem? (i := 103) (by decide +kernel))) (by decide +kernel)
theorem ml_X10_271 : Cond.methodLink RX10 271 yX9_findMove ∈ WS := ws_i (mT5 (List.mem_of_getElem? (i := 116) (by decide +kernel))) (by decide +kernel)
theorem ml_X10_283 : Cond.methodLink RX10 283 yX9_fewestJoined ∈ WS := ws_i (mT5 (List.mem_of_getElem? (i := 148) (by decide +kernel))) (by decide +kernel)
theorem ml_X10_286 : Cond.methodLink RX10 286 yX9_verdict ∈ WS := ws_i (mT5 (List.mem_of_getElem? (i := 166) (by decide +kernel))) (by decide +kernel)
theorem ml_X10_289 : Cond.methodLink RX10 289 yX8_isAt ∈ WS := ws_i (mT5 (List.mem_of_getElem? (i := 179) (by decide +kernel))) (by decide +kernel)
theorem ml_X10_296 : Cond.methodLink RX10 296 yX5_open ∈ WS := ws_i (mT5 (List.mem_of_getElem? (i := 183) (by decide +kernel))) (by decide +kernel)
theorem ml_X10_300 : Cond.methodLink RX10 300 yX8_put ∈ WS := ws_i (mT5 (List.mem_of_getElem? (i := 191) (by decide +kernel))) (by decide +kernel)
theorem ml_X10_304 : Cond.methodLink RX10 304 yX5_close ∈ WS := ws_i (mT5 (List.mem_of_getElem? (i := 196) (by decide +kernel))) (by decide +kernel)
theorem ml_X10_308 : Cond.methodLink RX10 308 yX5_get ∈ WS := ws_i (mT5 (List.mem_of_getElem? (i := 204) (by decide +kernel))) (by decide +kernel)
theorem ml_X10_318 : Cond.methodLink RX10 318 yX1_init ∈ WS := ws_i (mT4 (List.mem_of_getElem? (i := 138) (by decide +kernel))) (by decide +kernel)
theorem ml_X10_319 : Cond.methodLink RX10 319 yX1_lookFrom ∈ WS := ws_i (mT4 (List.mem_of_getElem? (i := 180) (by decide +kernel))) (by decide +kernel)
theorem ml_X10_322 : Cond.methodLink RX10 322 Lib.MathLoose.abs_long.x ∈ WS := ws_i (mT4 (List.mem_of_getElem? (i := 12) (by decide +kernel))) (by decide +kernel)
theorem ml_X11_1 : Cond.methodLink RX11 1 objectInit ∈ WS := ws_i (mT5 (List.mem_of_getElem? (i := 221) (by decide +kernel))) (by decide +kernel)
theorem ml_X11_118 : Cond.methodLink RX11 118 yX11_feeds ∈ WS := ws_i (mT6 (List.mem_of_getElem? (i := 144) (by decide +kernel))) (by decide +kernel)
theorem ml_X11_122 : Cond.methodLink RX11 122 yX11_in ∈ WS := ws_i (mT6 (List.mem_of_getElem? (i := 152) (by decide +kernel))) (by decide +kernel)
theorem ml_X11_132 : Cond.methodLink RX11 132 yX11_isLetter ∈ WS := ws_i (mT6 (List.mem_of_getElem? (i := 167) (by decide +kernel))) (by decide +kernel)
theorem ml_X11_136 : Cond.methodLink RX11 136 yX11_isDigit ∈ WS := ws_i (mT6 (List.mem_of_getElem? (i := 170) (by decide +kernel))) (by decide +kernel)
theorem ml_X11_139 : Cond.methodLink RX11 139 yJ0_length_8abf5 ∈ WS := ws_i (mT6 (List.mem_of_getElem? (i := 182) (by decide +kernel))) (by decide +kernel)
theorem ml_X11_143 : Cond.methodLink RX11 143 yJ0_charAt_5068e ∈ WS := ws_i (mT6 (List.mem_of_getElem? (i := 183) (by decide +kernel))) (by decide +kernel)
theorem ml_X11_150 : Cond.methodLink RX11 150 yX11_skips ∈ WS := ws_i (mT6 (List.mem_of_getElem? (i := 163) (by decide +kernel))) (by decide +kernel)
theorem ml_X11_156 : Cond.methodLink RX11 156 yX11_passes ∈ WS := ws_i (mT6 (List.mem_of_getElem? (i := 184) (by decide +kernel))) (by decide +kernel)
theorem ml_X11_160 : Cond.methodLink RX11 160 yX11_isWord ∈ WS := ws_i (mT6 (List.mem_of_getElem? (i := 178) (by decide +kernel))) (by decide +kernel)
theorem ml_X11_167 : Cond.methodLink RX11 167 yX11_isSign ∈ WS := ws_i (mT6 (List.mem_of_getElem? (i := 192) (by decide +kernel))) (by decide +kernel)
theorem ml_X11_170 : Cond.methodLink RX11 170 yX11_number ∈ WS := ws_i (mT6 (List.mem_of_getElem? (i := 201) (by decide +kernel))) (by decide +kernel)
theorem ml_X11_192 : Cond.methodLink RX11 192 Lib.Math.max.name ∈ WS := ws_i (mT6 (List.mem_of_getElem? (i := 224) (by decide +kernel))) (by decide +kernel)
theorem ml_X11_198 : Cond.methodLink RX11 198 Lib.Math.min.name ∈ WS := ws_i (mT6 (List.mem_of_getElem? (i := 225) (by decide +kernel))) (by decide +kernel)
theorem ml_X11_203 : Cond.methodLink RX11 203 yX11_near ∈ WS := ws_i (mT6 (List.mem_of_getElem? (i := 188) (by decide +kernel))) (by decide +kernel)
theorem ml_X11_208 : Cond.methodLink RX11 208 yX11_stretch ∈ WS := ws_i (mT6 (List.mem_of_getElem? (i := 197) (by decide +kernel))) (by decide +kernel)
theorem ml_X11_212 : Cond.methodLink RX11 212 yX11_voterRead ∈ WS := ws_i (mT6 (List.mem_of_getElem? (i := 206) (by decide +kernel))) (by decide +kernel)
theorem ml_X11_217 : Cond.methodLink RX11 217 yX11_placeRead ∈ WS := ws_i (mT6 (List.mem_of_getElem? (i := 212) (by decide +kernel))) (by decide +kernel)
theorem ml_X11_222 : Cond.methodLink RX11 222 yX11_winRead ∈ WS := ws_i (mT6 (List.mem_of_getElem? (i := 217) (by decide +kernel))) (by decide +kernel)
theorem ml_X11_225 : Cond.methodLink RX11 225 yX11_told ∈ WS := ws_i (mT6 (List.mem_of_getElem? (i := 173) (by decide +kernel))) (by decide +kernel)
theorem ml_X11_228 : Cond.methodLink RX11 228 yX11_reads ∈ WS := ws_i (mT6 (List.mem_of_getElem? (i := 159) (by decide +kernel))) (by decide +kernel)
theorem ml_X11_237 : Cond.methodLink RX11 237 yX11_voters ∈ WS := ws_i (mT6 (List.mem_of_getElem? (i := 230) (by decide +kernel))) (by decide +kernel)
theorem ml_X11_242 : Cond.methodLink RX11 242 yX11_places ∈ WS := ws_i (mT7 (List.mem_of_getElem? (i := 10) (by decide +kernel))) (by decide +kernel)
theorem ml_X11_245 : Cond.methodLink RX11 245 yX11_isVoter ∈ WS := ws_i (mT6 (List.mem_of_getElem? (i := 238) (by decide +kernel))) (by decide +kernel)
theorem ml_X11_248 : Cond.methodLink RX11 248 yX11_isPlace ∈ WS := ws_i (mT7 (List.mem_of_getElem? (i := 6) (by decide +kernel))) (by decide +kernel)
theorem ml_X11_251 : Cond.methodLink RX11 251 yX11_isPoint ∈ WS := ws_i (mT7 (List.mem_of_getElem? (i := 18) (by decide +kernel))) (by decide +kernel)
theorem ml_X11_254 : Cond.methodLink RX11 254 Lib.Math.abs.name ∈ WS := ws_i (mT7 (List.mem_of_getElem? (i := 34) (by decide +kernel))) (by decide +kernel)
theorem ml_X11_258 : Cond.methodLink RX11 258 yX11_wayFrom ∈ WS := ws_i (mT7 (List.mem_of_getElem? (i := 30) (by decide +kernel))) (by decide +kernel)
theorem ml_X11_262 : Cond.methodLink RX11 262 yX11_wayOf ∈ WS := ws_i (mT7 (List.mem_of_getElem? (i := 26) (by decide +kernel))) (by decide +kernel)
theorem ml_X11_266 : Cond.methodLink RX11 266 yX11_total ∈ WS := ws_i (mT7 (List.mem_of_getElem? (i := 63) (by decide +kernel))) (by decide +kernel)
theorem ml_X11_269 : Cond.methodLink RX11 269 yX11_forOf ∈ WS := ws_i (mT7 (List.mem_of_getElem? (i := 43) (by decide +kernel))) (by decide +kernel)
theorem ml_X11_273 : Cond.methodLink RX11 273 yX11_isWon ∈ WS := ws_i (mT7 (List.mem_of_getElem? (i := 59) (by decide +kernel))) (by decide +kernel)
theorem ml_X11_276 : Cond.methodLink RX11 276 yX11_beatsAt ∈ WS := ws_i (mT7 (List.mem_of_getElem? (i := 55) (by decide +kernel))) (by decide +kernel)
theorem ml_X11_280 : Cond.methodLink RX11 280 yX11_votesOf ∈ WS := ws_i (mT7 (List.mem_of_getElem? (i := 39) (by decide +kernel))) (by decide +kernel)
theorem ml_X11_283 : Cond.methodLink RX11 283 yX11_beatsOf ∈ WS := ws_i (mT7 (List.mem_of_getElem? (i := 51) (by decide +kernel))) (by decide +kernel)
theorem ml_X11_291 : Cond.methodLink RX11 291 yX11_isAhead ∈ WS := ws_i (mT7 (List.mem_of_getElem? (i := 95) (by decide +kernel))) (by decide +kernel)
theorem ml_X11_294 : Cond.methodLink RX11 294 yX11_gcd ∈ WS := ws_i (mT7 (List.mem_of_getElem? (i := 84) (by decide +kernel))) (by decide +kernel)
theorem ml_X11_298 : Cond.methodLink RX11 298 yX11_halves ∈ WS := ws_i (mT7 (List.mem_of_getElem? (i := 87) (by decide +kernel))) (by decide +kernel)
theorem ml_X11_302 : Cond.methodLink RX11 302 yX11_addsLine ∈ WS := ws_i (mT7 (List.mem_of_getElem? (i := 91) (by decide +kernel))) (by decide +kernel)
theorem ml_X11_306 : Cond.methodLink RX11 306 yX11_through ∈ WS := ws_i (mT7 (List.mem_of_getElem? (i := 80) (by decide +kernel))) (by decide +kernel)
theorem ml_X11_310 : Cond.methodLink RX11 310 yX11_findsMiddles ∈ WS := ws_i (mT7 (List.mem_of_getElem? (i := 99) (by decide +kernel))) (by decide +kernel)
theorem ml_X11_313 : Cond.methodLink RX11 313 yX11_knows ∈ WS := ws_i (mT7 (List.mem_of_getElem? (i := 76) (by decide +kernel))) (by decide +kernel)
theorem ml_X11_320 : Cond.methodLink RX11 320 yX11_isMiddle ∈ WS := ws_i (mT7 (List.mem_of_getElem? (i := 107) (by decide +kernel))) (by decide +kernel)
theorem ml_X11_323 : Cond.methodLink RX11 323 yX11_isBehind ∈ WS := ws_i (mT7 (List.mem_of_getElem? (i := 111) (by decide +kernel))) (by decide +kernel)
theorem ml_X11_327 : Cond.methodLink RX11 327 yX11_addsMiddle ∈ WS := ws_i (mT7 (List.mem_of_getElem? (i := 103) (by decide +kernel))) (by decide +kernel)
theorem ml_X11_333 : Cond.methodLink RX11 333 yX11_meet ∈ WS := ws_i (mT7 (List.mem_of_getElem? (i := 125) (by decide +kernel))) (by decide +kernel)
theorem ml_X11_345 : Cond.methodLink RX11 345 yX11_far ∈ WS := ws_i (mT7 (List.mem_of_getElem? (i := 134) (by decide +kernel))) (by decide +kernel)
theorem ml_X11_354 : Cond.methodLink RX11 354 yX11_floods ∈ WS := ws_i (mT7 (List.mem_of_getElem? (i := 146) (by decide +kernel))) (by decide +kernel)
theorem ml_X11_357 : Cond.methodLink RX11 357 yX11_finds ∈ WS := ws_i (mT7 (List.mem_of_getElem? (i := 142) (by decide +kernel))) (by decide +kernel)
theorem ml_X11_360 : Cond.methodLink RX11 360 yX11_leads ∈ WS := ws_i (mT7 (List.mem_of_getElem? (i := 158) (by decide +kernel))) (by decide +kernel)
theorem ml_X11_363 : Cond.methodLink RX11 363 yX11_covers ∈ WS := ws_i (mT7 (List.mem_of_getElem? (i := 174) (by decide +kernel))) (by decide +kernel)
theorem ml_X11_366 : Cond.methodLink RX11 366 yX11_isReached ∈ WS := ws_i (mT7 (List.mem_of_getElem? (i := 166) (by decide +kernel))) (by decide +kernel)
theorem ml_X11_369 : Cond.methodLink RX11 369 yX11_isOpen ∈ WS := ws_i (mT7 (List.mem_of_getElem? (i := 170) (by decide +kernel))) (by decide +kernel)
theorem ml_X11_372 : Cond.methodLink RX11 372 yX11_chosen ∈ WS := ws_i (mT7 (List.mem_of_getElem? (i := 186) (by decide +kernel))) (by decide +kernel)
theorem ml_X11_375 : Cond.methodLink RX11 375 yX11_gain ∈ WS := ws_i (mT7 (List.mem_of_getElem? (i := 190) (by decide +kernel))) (by decide +kernel)
theorem ml_X11_378 : Cond.methodLink RX11 378 yJ6_numberOfTrailingZeros_0f7a4 ∈ WS := ws_i (mT7 (List.mem_of_getElem? (i := 212) (by decide +kernel))) (by decide +kernel)
theorem ml_X11_383 : Cond.methodLink RX11 383 yX11_coupled ∈ WS := ws_i (mT7 (List.mem_of_getElem? (i := 208) (by decide +kernel))) (by decide +kernel)
theorem ml_X11_387 : Cond.methodLink RX11 387 yJ6_bitCount_0f7a4 ∈ WS := ws_i (mT7 (List.mem_of_getElem? (i := 203) (by decide +kernel))) (by decide +kernel)
theorem ml_X11_390 : Cond.methodLink RX11 390 yX11_isLot ∈ WS := ws_i (mT7 (List.mem_of_getElem? (i := 204) (by decide +kernel))) (by decide +kernel)
theorem ml_X11_395 : Cond.methodLink RX11 395 yX11_findsLots ∈ WS := ws_i (mT7 (List.mem_of_getElem? (i := 199) (by decide +kernel))) (by decide +kernel)
theorem ml_X11_398 : Cond.methodLink RX11 398 yX11_needOf ∈ WS := ws_i (mT7 (List.mem_of_getElem? (i := 217) (by decide +kernel))) (by decide +kernel)
theorem ml_X11_401 : Cond.methodLink RX11 401 yX11_isUnbeaten ∈ WS := ws_i (mT7 (List.mem_of_getElem? (i := 229) (by decide +kernel))) (by decide +kernel)
theorem ml_X11_404 : Cond.methodLink RX11 404 yX11_peace ∈ WS := ws_i (mT7 (List.mem_of_getElem? (i := 237) (by decide +kernel))) (by decide +kernel)
theorem ml_X11_407 : Cond.methodLink RX11 407 yX11_joins ∈ WS := ws_i (mT8 (List.mem_of_getElem? (i := 2) (by decide +kernel))) (by decide +kernel)
theorem ml_X11_419 : Cond.methodLink RX11 419 yX11_sure ∈ WS := ws_i (mT8 (List.mem_of_getElem? (i := 15) (by decide +kernel))) (by decide +kernel)
theorem ml_X11_424 : Cond.methodLink RX11 424 yX11_asks ∈ WS := ws_i (mT8 (List.mem_of_getElem? (i := 11) (by decide +kernel))) (by decide +kernel)
theorem ml_X11_427 : Cond.methodLink RX11 427 yX11_pairs ∈ WS := ws_i (mT8 (List.mem_of_getElem? (i := 23) (by decide +kernel))) (by decide +kernel)
theorem ml_X2_3 : Cond.methodLink RX2 3 objectInit ∈ WS := ws_i (mT1 (List.mem_of_getElem? (i := 227) (by decide +kernel))) (by decide +kernel)
theorem ml_X2_38 : Cond.methodLink RX2 38 yX2_addThrough ∈ WS := ws_i (mT4 (List.mem_of_getElem? (i := 5) (by decide +kernel))) (by decide +kernel)
theorem ml_X2_52 : Cond.methodLink RX2 52 yX2_isHalving ∈ WS := ws_i (mT4 (List.mem_of_getElem? (i := 15) (by decide +kernel))) (by decide +kernel)
theorem ml_X2_56 : Cond.methodLink RX2 56 yX2_insert ∈ WS := ws_i (mT4 (List.mem_of_getElem? (i := 23) (by decide +kernel))) (by decide +kernel)
theorem ml_X2_63 : Cond.methodLink RX2 63 yX8_isMoreThanHalf ∈ WS := ws_i (mT4 (List.mem_of_getElem? (i := 19) (by decide +kernel))) (by decide +kernel)
theorem ml_X2_67 : Cond.methodLink RX2 67 yX2_order ∈ WS := ws_i (mT4 (List.mem_of_getElem? (i := 27) (by decide +kernel))) (by decide +kernel)
theorem ml_X2_71 : Cond.methodLink RX2 71 yJ6_compare_7cf53 ∈ WS := ws_i (mT4 (List.mem_of_getElem? (i := 31) (by decide +kernel))) (by decide +kernel)
theorem ml_X3_3 : Cond.methodLink RX3 3 objectInit ∈ WS := ws_i (mT2 (List.mem_of_getElem? (i := 94) (by decide +kernel))) (by decide +kernel)
theorem ml_X3_49 : Cond.methodLink RX3 49 Lib.Math.min.name ∈ WS := ws_i (mT5 (List.mem_of_getElem? (i := 42) (by decide +kernel))) (by decide +kernel)
theorem ml_X3_56 : Cond.methodLink RX3 56 yX0_forOf ∈ WS := ws_i (mT5 (List.mem_of_getElem? (i := 43) (by decide +kernel))) (by decide +kernel)
theorem ml_X3_59 : Cond.methodLink RX3 59 yX3_findRest ∈ WS := ws_i (mT5 (List.mem_of_getElem? (i := 44) (by decide +kernel))) (by decide +kernel)
theorem ml_X3_62 : Cond.methodLink RX3 62 yX3_fillPfaffians ∈ WS := ws_i (mT5 (List.mem_of_getElem? (i := 52) (by decide +kernel))) (by decide +kernel)
theorem ml_X3_65 : Cond.methodLink RX3 65 yX3_findLots ∈ WS := ws_i (mT5 (List.mem_of_getElem? (i := 65) (by decide +kernel))) (by decide +kernel)
theorem ml_X3_68 : Cond.methodLink RX3 68 yX3_gainOf ∈ WS := ws_i (mT5 (List.mem_of_getElem? (i := 48) (by decide +kernel))) (by decide +kernel)
theorem ml_X3_71 : Cond.methodLink RX3 71 yJ6_bitCount_0f7a4 ∈ WS := ws_i (mT5 (List.mem_of_getElem? (i := 56) (by decide +kernel))) (by decide +kernel)
theorem ml_X3_77 : Cond.methodLink RX3 77 yX3_expand ∈ WS := ws_i (mT5 (List.mem_of_getElem? (i := 57) (by decide +kernel))) (by decide +kernel)
theorem ml_X3_81 : Cond.methodLink RX3 81 yJ6_numberOfTrailingZeros_0f7a4 ∈ WS := ws_i (mT5 (List.mem_of_getElem? (i := 61) (by decide +kernel))) (by decide +kernel)
theorem ml_X3_88 : Cond.methodLink RX3 88 yX3_shareAmong ∈ WS := ws_i (mT5 (List.mem_of_getElem? (i := 69) (by decide +kernel))) (by decide +kernel)
theorem ml_X3_92 : Cond.methodLink RX3 92 yX3_nobodyGains ∈ WS := ws_i (mT5 (List.mem_of_getElem? (i := 77) (by decide +kernel))) (by decide +kernel)
theorem ml_X3_96 : Cond.methodLink RX3 96 yX3_reduce ∈ WS := ws_i (mT5 (List.mem_of_getElem? (i := 81) (by decide +kernel))) (by decide +kernel)
theorem ml_X3_99 : Cond.methodLink RX3 99 yJ7_fill_d0a16 ∈ WS := ws_i (mT5 (List.mem_of_getElem? (i := 73) (by decide +kernel))) (by decide +kernel)
theorem ml_X3_105 : Cond.methodLink RX3 105 Lib.MathLoose.abs_long.x ∈ WS := ws_i (mT5 (List.mem_of_getElem? (i := 76) (by decide +kernel))) (by decide +kernel)
theorem ml_X4_3 : Cond.methodLink RX4 3 objectInit ∈ WS := ws_i (mT2 (List.mem_of_getElem? (i := 25) (by decide +kernel))) (by decide +kernel)
theorem ml_X4_40 : Cond.methodLink RX4 40 yX2_refresh ∈ WS := ws_i (mT4 (List.mem_of_getElem? (i := 43) (by decide +kernel))) (by decide +kernel)
theorem ml_X4_55 : Cond.methodLink RX4 55 yX4_ask ∈ WS := ws_i (mT4 (List.mem_of_getElem? (i := 44) (by decide +kernel))) (by decide +kernel)
theorem ml_X4_60 : Cond.methodLink RX4 60 yX4_askCrossing ∈ WS := ws_i (mT4 (List.mem_of_getElem? (i := 69) (by decide +kernel))) (by decide +kernel)
theorem ml_X4_64 : Cond.methodLink RX4 64 yJ7_fill_53178 ∈ WS := ws_i (mT4 (List.mem_of_getElem? (i := 85) (by decide +kernel))) (by decide +kernel)
theorem ml_X4_70 : Cond.methodLink RX4 70 yX4_findProof ∈ WS := ws_i (mT4 (List.mem_of_getElem? (i := 86) (by decide +kernel))) (by decide +kernel)
theorem ml_X4_73 : Cond.methodLink RX4 73 yX2_turnBetween ∈ WS := ws_i (mT4 (List.mem_of_getElem? (i := 73) (by decide +kernel))) (by decide +kernel)
theorem ml_X4_77 : Cond.methodLink RX4 77 yX2_crossingX ∈ WS := ws_i (mT4 (List.mem_of_getElem? (i := 77) (by decide +kernel))) (by decide +kernel)
theorem ml_X4_80 : Cond.methodLink RX4 80 yX2_crossingY ∈ WS := ws_i (mT4 (List.mem_of_getElem? (i := 81) (by decide +kernel))) (by decide +kernel)
theorem ml_X4_87 : Cond.methodLink RX4 87 yX4_isMiddle ∈ WS := ws_i (mT4 (List.mem_of_getElem? (i := 49) (by decide +kernel))) (by decide +kernel)
theorem ml_X4_91 : Cond.methodLink RX4 91 yX4_insert ∈ WS := ws_i (mT4 (List.mem_of_getElem? (i := 58) (by decide +kernel))) (by decide +kernel)
theorem ml_X4_94 : Cond.methodLink RX4 94 yX4_isCrowdedFrom ∈ WS := ws_i (mT4 (List.mem_of_getElem? (i := 53) (by decide +kernel))) (by decide +kernel)
theorem ml_X4_101 : Cond.methodLink RX4 101 yX8_isMoreThanHalf ∈ WS := ws_i (mT4 (List.mem_of_getElem? (i := 57) (by decide +kernel))) (by decide +kernel)
theorem ml_X4_105 : Cond.methodLink RX4 105 yX4_order ∈ WS := ws_i (mT4 (List.mem_of_getElem? (i := 62) (by decide +kernel))) (by decide +kernel)
theorem ml_X4_109 : Cond.methodLink RX4 109 yJ13_compare_74951 ∈ WS := ws_i (mT4 (List.mem_of_getElem? (i := 66) (by decide +kernel))) (by decide +kernel)
theorem ml_X4_115 : Cond.methodLink RX4 115 yX4_firstApart ∈ WS := ws_i (mT4 (List.mem_of_getElem? (i := 90) (by decide +kernel))) (by decide +kernel)
theorem ml_X5_3 : Cond.methodLink RX5 3 objectInit ∈ WS := ws_i (mT2 (List.mem_of_getElem? (i := 179) (by decide +kernel))) (by decide +kernel)
theorem ml_X5_19 : Cond.methodLink RX5 19 yX5_set ∈ WS := ws_i (mT5 (List.mem_of_getElem? (i := 187) (by decide +kernel))) (by decide +kernel)
theorem ml_X6_3 : Cond.methodLink RX6 3 objectInit ∈ WS := ws_i (mT1 (List.mem_of_getElem? (i := 143) (by decide +kernel))) (by decide +kernel)
theorem ml_X6_26 : Cond.methodLink RX6 26 yX8_clear ∈ WS := ws_i (mT2 (List.mem_of_getElem? (i := 239) (by decide +kernel))) (by decide +kernel)
theorem ml_X6_45 : Cond.methodLink RX6 45 yX6_next ∈ WS := ws_i (mT3 (List.mem_of_getElem? (i := 3) (by decide +kernel))) (by decide +kernel)
theorem ml_X6_51 : Cond.methodLink RX6 51 yX6_readOne ∈ WS := ws_i (mT3 (List.mem_of_getElem? (i := 22) (by decide +kernel))) (by decide +kernel)
theorem ml_X6_63 : Cond.methodLink RX6 63 yX6_isWord ∈ WS := ws_i (mT3 (List.mem_of_getElem? (i := 27) (by decide +kernel))) (by decide +kernel)
theorem ml_X6_67 : Cond.methodLink RX6 67 yX6_readNear ∈ WS := ws_i (mT3 (List.mem_of_getElem? (i := 79) (by decide +kernel))) (by decide +kernel)
theorem ml_X6_72 : Cond.methodLink RX6 72 yX6_readStretch ∈ WS := ws_i (mT3 (List.mem_of_getElem? (i := 92) (by decide +kernel))) (by decide +kernel)
theorem ml_X6_77 : Cond.methodLink RX6 77 yX6_readVoter ∈ WS := ws_i (mT3 (List.mem_of_getElem? (i := 101) (by decide +kernel))) (by decide +kernel)
theorem ml_X6_82 : Cond.methodLink RX6 82 yX6_readPlace ∈ WS := ws_i (mT3 (List.mem_of_getElem? (i := 111) (by decide +kernel))) (by decide +kernel)
theorem ml_X6_87 : Cond.methodLink RX6 87 yX6_readBar ∈ WS := ws_i (mT3 (List.mem_of_getElem? (i := 120) (by decide +kernel))) (by decide +kernel)
theorem ml_X6_98 : Cond.methodLink RX6 98 yX6_passSemicolon ∈ WS := ws_i (mT3 (List.mem_of_getElem? (i := 87) (by decide +kernel))) (by decide +kernel)
theorem ml_X6_101 : Cond.methodLink RX6 101 yX6_isNumber ∈ WS := ws_i (mT3 (List.mem_of_getElem? (i := 96) (by decide +kernel))) (by decide +kernel)
theorem ml_X6_110 : Cond.methodLink RX6 110 yX8_addVoter ∈ WS := ws_i (mT3 (List.mem_of_getElem? (i := 106) (by decide +kernel))) (by decide +kernel)
theorem ml_X6_117 : Cond.methodLink RX6 117 yX8_addPlace ∈ WS := ws_i (mT3 (List.mem_of_getElem? (i := 115) (by decide +kernel))) (by decide +kernel)
theorem ml_X6_130 : Cond.methodLink RX6 130 yX6_readShare ∈ WS := ws_i (mT3 (List.mem_of_getElem? (i := 127) (by decide +kernel))) (by decide +kernel)
theorem ml_X6_139 : Cond.methodLink RX6 139 yJ0_length_8abf5 ∈ WS := ws_i (mT3 (List.mem_of_getElem? (i := 31) (by decide +kernel))) (by decide +kernel)
theorem ml_X6_144 : Cond.methodLink RX6 144 yJ0_charAt_5068e ∈ WS := ws_i (mT3 (List.mem_of_getElem? (i := 41) (by decide +kernel))) (by decide +kernel)
theorem ml_X6_148 : Cond.methodLink RX6 148 yX6_isLetter ∈ WS := ws_i (mT3 (List.mem_of_getElem? (i := 7) (by decide +kernel))) (by decide +kernel)
theorem ml_X6_152 : Cond.methodLink RX6 152 yX6_isDigit ∈ WS := ws_i (mT3 (List.mem_of_getElem? (i := 11) (by decide +kernel))) (by decide +kernel)
theorem ml_X6_155 : Cond.methodLink RX6 155 Lib.Math.min.name ∈ WS := ws_i (mT3 (List.mem_of_getElem? (i := 15) (by decide +kernel))) (by decide +kernel)
theorem ml_X6_161 : Cond.methodLink RX6 161 yX6_signAt ∈ WS := ws_i (mT3 (List.mem_of_getElem? (i := 18) (by decide +kernel))) (by decide +kernel)
theorem ml_X7_3 : Cond.methodLink RX7 3 objectInit ∈ WS := ws_i (mT2 (List.mem_of_getElem? (i := 62) (by decide +kernel))) (by decide +kernel)
theorem ml_X7_32 : Cond.methodLink RX7 32 yX2_refresh ∈ WS := ws_i (mT4 (List.mem_of_getElem? (i := 106) (by decide +kernel))) (by decide +kernel)
theorem ml_X7_38 : Cond.methodLink RX7 38 yX7_settleAt ∈ WS := ws_i (mT4 (List.mem_of_getElem? (i := 107) (by decide +kernel))) (by decide +kernel)
theorem ml_X7_42 : Cond.methodLink RX7 42 yX7_isNearer ∈ WS := ws_i (mT4 (List.mem_of_getElem? (i := 123) (by decide +kernel))) (by decide +kernel)
theorem ml_X7_62 : Cond.methodLink RX7 62 yX7_isBelow ∈ WS := ws_i (mT4 (List.mem_of_getElem? (i := 111) (by decide +kernel))) (by decide +kernel)
theorem ml_X7_66 : Cond.methodLink RX7 66 yX7_squareTop ∈ WS := ws_i (mT4 (List.mem_of_getElem? (i := 115) (by decide +kernel))) (by decide +kernel)
theorem ml_X7_70 : Cond.methodLink RX7 70 yX7_squareBottom ∈ WS := ws_i (mT4 (List.mem_of_getElem? (i := 119) (by decide +kernel))) (by decide +kernel)
theorem ml_X8_3 : Cond.methodLink RX8 3 objectInit ∈ WS := ws_i (mT1 (List.mem_of_getElem? (i := 34) (by decide +kernel))) (by decide +kernel)
theorem ml_X8_61 : Cond.methodLink RX8 61 yX8_hasVoter ∈ WS := ws_i (mT5 (List.mem_of_getElem? (i := 195) (by decide +kernel))) (by decide +kernel)
theorem ml_X8_65 : Cond.methodLink RX8 65 yX8_clear ∈ WS := ws_i (mT3 (List.mem_of_getElem? (i := 139) (by decide +kernel))) (by decide +kernel)
theorem ml_X8_68 : Cond.methodLink RX8 68 yX8_addVoter ∈ WS := ws_i (mT3 (List.mem_of_getElem? (i := 140) (by decide +kernel))) (by decide +kernel)
theorem ml_X8_72 : Cond.methodLink RX8 72 yX8_addPlace ∈ WS := ws_i (mT3 (List.mem_of_getElem? (i := 141) (by decide +kernel))) (by decide +kernel)
theorem ml_X8_76 : Cond.methodLink RX8 76 Lib.Math.max.name ∈ WS := ws_i (mT3 (List.mem_of_getElem? (i := 181) (by decide +kernel))) (by decide +kernel)
theorem ml_X8_82 : Cond.methodLink RX8 82 Lib.Math.abs.name ∈ WS := ws_i (mT3 (List.mem_of_getElem? (i := 174) (by decide +kernel))) (by decide +kernel)
theorem ml_X8_86 : Cond.methodLink RX8 86 yX8_wayOver ∈ WS := ws_i (mT3 (List.mem_of_getElem? (i := 177) (by decide +kernel))) (by decide +kernel)
theorem ml_X8_90 : Cond.methodLink RX8 90 yX8_wayTo ∈ WS := ws_i (mT3 (List.mem_of_getElem? (i := 235) (by decide +kernel))) (by decide +kernel)
theorem ml_X9_3 : Cond.methodLink RX9 3 objectInit ∈ WS := ws_i (mT2 (List.mem_of_getElem? (i := 136) (by decide +kernel))) (by decide +kernel)
theorem ml_X9_64 : Cond.methodLink RX9 64 yX9_fillWays ∈ WS := ws_i (mT5 (List.mem_of_getElem? (i := 120) (by decide +kernel))) (by decide +kernel)
theorem ml_X9_71 : Cond.methodLink RX9 71 yX9_tryMove ∈ WS := ws_i (mT5 (List.mem_of_getElem? (i := 130) (by decide +kernel))) (by decide +kernel)
theorem ml_X9_84 : Cond.methodLink RX9 84 yX9_isPeaceBehind ∈ WS := ws_i (mT5 (List.mem_of_getElem? (i := 134) (by decide +kernel))) (by decide +kernel)
theorem ml_X9_88 : Cond.methodLink RX9 88 yX9_wayFrom ∈ WS := ws_i (mT5 (List.mem_of_getElem? (i := 124) (by decide +kernel))) (by decide +kernel)
theorem ml_X9_92 : Cond.methodLink RX9 92 Lib.Math.abs.name ∈ WS := ws_i (mT5 (List.mem_of_getElem? (i := 128) (by decide +kernel))) (by decide +kernel)
theorem ml_X9_98 : Cond.methodLink RX9 98 yX8_wayOver ∈ WS := ws_i (mT5 (List.mem_of_getElem? (i := 129) (by decide +kernel))) (by decide +kernel)
theorem ml_X9_102 : Cond.methodLink RX9 102 yX9_forBehind ∈ WS := ws_i (mT5 (List.mem_of_getElem? (i := 138) (by decide +kernel))) (by decide +kernel)
theorem ml_X9_105 : Cond.methodLink RX9 105 yX8_isEnough ∈ WS := ws_i (mT5 (List.mem_of_getElem? (i := 143) (by decide +kernel))) (by decide +kernel)
theorem ml_X9_109 : Cond.methodLink RX9 109 yX0_forOf ∈ WS := ws_i (mT5 (List.mem_of_getElem? (i := 142) (by decide +kernel))) (by decide +kernel)
theorem ml_X9_113 : Cond.methodLink RX9 113 Lib.Math.min.name ∈ WS := ws_i (mT5 (List.mem_of_getElem? (i := 152) (by decide +kernel))) (by decide +kernel)
theorem ml_X9_116 : Cond.methodLink RX9 116 yX9_fillJoining ∈ WS := ws_i (mT5 (List.mem_of_getElem? (i := 153) (by decide +kernel))) (by decide +kernel)
theorem ml_X9_119 : Cond.methodLink RX9 119 yJ6_bitCount_0f7a4 ∈ WS := ws_i (mT5 (List.mem_of_getElem? (i := 157) (by decide +kernel))) (by decide +kernel)
theorem ml_X9_124 : Cond.methodLink RX9 124 yX9_standsJoined ∈ WS := ws_i (mT5 (List.mem_of_getElem? (i := 158) (by decide +kernel))) (by decide +kernel)
theorem ml_X9_128 : Cond.methodLink RX9 128 yX9_stancesOf ∈ WS := ws_i (mT5 (List.mem_of_getElem? (i := 170) (by decide +kernel))) (by decide +kernel)
theorem ml_X9_134 : Cond.methodLink RX9 134 Lib.Math.max.name ∈ WS := ws_i (mT5 (List.mem_of_getElem? (i := 174) (by decide +kernel))) (by decide +kernel)
theorem im_J0_charAt_5068e : Cond.instanceMethod yJ0_charAt_5068e ∈ WS := ws_i (mT3 (List.mem_of_getElem? (i := 42) (by decide +kernel))) (by decide +kernel)
theorem se_J0_charAt_5068e : Cond.selects RJ0 yJ0_charAt_5068e yJ0_charAt_5068e ∈ WS := ws_i (mT3 (List.mem_of_getElem? (i := 43) (by decide +kernel))) (by decide +kernel)
theorem co_J0_charAt_5068e : Cond.code yJ0_charAt_5068e cJ0_charAt_5068e 2 (some .char) ∈ WS := ws_i (mT3 (List.mem_of_getElem? (i := 44) (by decide +kernel))) (by decide +kernel)
theorem yo_J0_charAt_5068e : yJ0_charAt_5068e.cls ≠ "java/lang/invoke/MethodHandle" ∧ yJ0_charAt_5068e.cls ≠ "java/lang/invoke/VarHandle" ∧ (parseMethodDescriptor yJ0_charAt_5068e.desc).map (fun d => d.parameters.length) = some 1 := by decide +kernel
theorem st_J0_checkIndex_df160 : Cond.static yJ0_checkIndex_df160 ∈ WS := ws_i (mT3 (List.mem_of_getElem? (i := 53) (by decide +kernel))) (by decide +kernel)
theorem co_J0_checkIndex_df160 : Cond.code yJ0_checkIndex_df160 cJ0_checkIndex_df160 2 none ∈ WS := ws_i (mT3 (List.mem_of_getElem? (i := 54) (by decide +kernel))) (by decide +kernel)
theorem yo_J0_checkIndex_df160 : yJ0_checkIndex_df160.cls ≠ "java/lang/invoke/MethodHandle" ∧ yJ0_checkIndex_df160.cls ≠ "java/lang/invoke/VarHandle" ∧ (parseMethodDescriptor yJ0_checkIndex_df160.desc).map (fun d => d.parameters.length) = some 2 := by decide +kernel
theorem im_J0_coder_7d493 : Cond.instanceMethod yJ0_coder_7d493 ∈ WS := ws_i (mT3 (List.mem_of_getElem? (i := 36) (by decide +kernel))) (by decide +kernel)
theorem se_J0_coder_7d493 : Cond.selects RJ0 yJ0_coder_7d493 yJ0_coder_7d493 ∈ WS := ws_i (mT3 (List.mem_of_getElem? (i := 37) (by decide +kernel))) (by decide +kernel)
theorem co_J0_coder_7d493 : Cond.code yJ0_coder_7d493 cJ0_coder_7d493 1 (some .byte) ∈ WS := ws_i (mT3 (List.mem_of_getElem? (i := 38) (by decide +kernel))) (by decide +kernel)
theorem yo_J0_coder_7d493 : yJ0_coder_7d493.cls ≠ "java/lang/invoke/MethodHandle" ∧ yJ0_coder_7d493.cls ≠ "java/lang/invoke/VarHandle" ∧ (parseMethodDescriptor yJ0_coder_7d493.desc).map (fun d => d.parameters.length) = some 0 := by decide +kernel
theorem im_J0_isLatin1_aae02 : Cond.instanceMethod yJ0_isLatin1_aae02 ∈ WS := ws_i (mT3 (List.mem_of_getElem? (i := 46) (by decide +kernel))) (by decide +kernel)
theorem se_J0_isLatin1_aae02 : Cond.selects RJ0 yJ0_isLatin1_aae02 yJ0_isLatin1_aae02 ∈ WS := ws_i (mT3 (List.mem_of_getElem? (i := 47) (by decide +kernel))) (by decide +kernel)
theorem co_J0_isLatin1_aae02 : Cond.code yJ0_isLatin1_aae02 cJ0_isLatin1_aae02 1 (some .boolean) ∈ WS := ws_i (mT3 (List.mem_of_getElem? (i := 48) (by decide +kernel))) (by decide +kernel)
theorem yo_J0_isLatin1_aae02 : yJ0_isLatin1_aae02.cls ≠ "java/lang/invoke/MethodHandle" ∧ yJ0_isLatin1_aae02.cls ≠ "java/lang/invoke/VarHandle" ∧ (parseMethodDescriptor yJ0_isLatin1_aae02.desc).map (fun d => d.parameters.length) = some 0 := by decide +kernel
theorem im_J0_length_8abf5 : Cond.instanceMethod yJ0_length_8abf5 ∈ WS := ws_i (mT3 (List.mem_of_getElem? (i := 32) (by decide +kernel))) (by decide +kernel)
theorem se_J0_length_8abf5 : Cond.selects RJ0 yJ0_length_8abf5 yJ0_length_8abf5 ∈ WS := ws_i (mT3 (List.mem_of_getElem? (i := 33) (by decide +kernel))) (by decide +kernel)
theorem co_J0_length_8abf5 : Cond.code yJ0_length_8abf5 cJ0_length_8abf5 1 (some .int) ∈ WS := ws_i (mT3 (List.mem_of_getElem? (i := 34) (by decide +kernel))) (by decide +kernel)
theorem yo_J0_length_8abf5 : yJ0_length_8abf5.cls ≠ "java/lang/invoke/MethodHandle" ∧ yJ0_length_8abf5.cls ≠ "java/lang/invoke/VarHandle" ∧ (parseMethodDescriptor yJ0_length_8abf5.desc).map (fun d => d.parameters.length) = some 0 := by decide +kernel
theorem st_J13_compare_74951 : Cond.static yJ13_compare_74951 ∈ WS := ws_i (mT4 (List.mem_of_getElem? (i := 67) (by decide +kernel))) (by decide +kernel)
theorem co_J13_compare_74951 : Cond.code yJ13_compare_74951 cJ13_compare_74951 4 (some .int) ∈ WS := ws_i (mT4 (List.mem_of_getElem? (i := 68) (by decide +kernel))) (by decide +kernel)
theorem yo_J13_compare_74951 : yJ13_compare_74951.cls ≠ "java/lang/invoke/MethodHandle" ∧ yJ13_compare_74951.cls ≠ "java/lang/invoke/VarHandle" ∧ (parseMethodDescriptor yJ13_compare_74951.desc).map (fun d => d.parameters.length) = some 2 := by decide +kernel
theorem st_J1_charAt_3b067 : Cond.static yJ1_charAt_3b067 ∈ WS := ws_i (mT3 (List.mem_of_getElem? (i := 50) (by decide +kernel))) (by decide +kernel)
theorem co_J1_charAt_3b067 : Cond.code yJ1_charAt_3b067 cJ1_charAt_3b067 2 (some .char) ∈ WS := ws_i (mT3 (List.mem_of_getElem? (i := 51) (by decide +kernel))) (by decide +kernel)
theorem yo_J1_charAt_3b067 : yJ1_charAt_3b067.cls ≠ "java/lang/invoke/MethodHandle" ∧ yJ1_charAt_3b067.cls ≠ "java/lang/invoke/VarHandle" ∧ (parseMethodDescriptor yJ1_charAt_3b067.desc).map (fun d => d.parameters.length) = some 2 := by decide +kernel
theorem st_J2_charAt_3b067 : Cond.static yJ2_charAt_3b067 ∈ WS := ws_i (mT3 (List.mem_of_getElem? (i := 61) (by decide +kernel))) (by decide +kernel)
theorem co_J2_charAt_3b067 : Cond.code yJ2_charAt_3b067 cJ2_charAt_3b067 2 (some .char) ∈ WS := ws_i (mT3 (List.mem_of_getElem? (i := 62) (by decide +kernel))) (by decide +kernel)
theorem yo_J2_charAt_3b067 : yJ2_charAt_3b067.cls ≠ "java/lang/invoke/MethodHandle" ∧ yJ2_charAt_3b067.cls ≠ "java/lang/invoke/VarHandle" ∧ (parseMethodDescriptor yJ2_charAt_3b067.desc).map (fun d => d.parameters.length) = some 2 := by decide +kernel
theorem st_J2_checkIndex_2214a : Cond.static yJ2_checkIndex_2214a ∈ WS := ws_i (mT3 (List.mem_of_getElem? (i := 64) (by decide +kernel))) (by decide +kernel)
theorem co_J2_checkIndex_2214a : Cond.code yJ2_checkIndex_2214a cJ2_checkIndex_2214a 2 none ∈ WS := ws_i (mT3 (List.mem_of_getElem? (i := 65) (by decide +kernel))) (by decide +kernel)
theorem yo_J2_checkIndex_2214a : yJ2_checkIndex_2214a.cls ≠ "java/lang/invoke/MethodHandle" ∧ yJ2_checkIndex_2214a.cls ≠ "java/lang/invoke/VarHandle" ∧ (parseMethodDescriptor yJ2_checkIndex_2214a.desc).map (fun d => d.parameters.length) = some 2 := by decide +kernel
theorem st_J2_getChar_3b067 : Cond.static yJ2_getChar_3b067 ∈ WS := ws_i (mT3 (List.mem_of_getElem? (i := 71) (by decide +kernel))) (by decide +kernel)
theorem co_J2_getChar_3b067 : Cond.code yJ2_getChar_3b067 cJ2_getChar_3b067 2 (some .char) ∈ WS := ws_i (mT3 (List.mem_of_getElem? (i := 72) (by decide +kernel))) (by decide +kernel)
theorem yo_J2_getChar_3b067 : yJ2_getChar_3b067.cls ≠ "java/lang/invoke/MethodHandle" ∧ yJ2_getChar_3b067.cls ≠ "java/lang/invoke/VarHandle" ∧ (parseMethodDescriptor yJ2_getChar_3b067.desc).map (fun d => d.parameters.length) = some 2 := by decide +kernel
theorem st_J2_length_9d52b : Cond.static yJ2_length_9d52b ∈ WS := ws_i (mT3 (List.mem_of_getElem? (i := 67) (by decide +kernel))) (by decide +kernel)
theorem co_J2_length_9d52b : Cond.code yJ2_length_9d52b cJ2_length_9d52b 1 (some .int) ∈ WS := ws_i (mT3 (List.mem_of_getElem? (i := 68) (by decide +kernel))) (by decide +kernel)
theorem yo_J2_length_9d52b : yJ2_length_9d52b.cls ≠ "java/lang/invoke/MethodHandle" ∧ yJ2_length_9d52b.cls ≠ "java/lang/invoke/VarHandle" ∧ (parseMethodDescriptor yJ2_length_9d52b.desc).map (fun d => d.parameters.length) = some 1 := by decide +kernel
theorem st_J3_checkIndex_8e157 : Cond.static yJ3_checkIndex_8e157 ∈ WS := ws_i (mT3 (List.mem_of_getElem? (i := 58) (by decide +kernel))) (by decide +kernel)
theorem co_J3_checkIndex_8e157 : Cond.code yJ3_checkIndex_8e157 cJ3_checkIndex_8e157 3 (some .int) ∈ WS := ws_i (mT3 (List.mem_of_getElem? (i := 59) (by decide +kernel))) (by decide +kernel)
theorem yo_J3_checkIndex_8e157 : yJ3_checkIndex_8e157.cls ≠ "java/lang/invoke/MethodHandle" ∧ yJ3_checkIndex_8e157.cls ≠ "java/lang/invoke/VarHandle" ∧ (parseMethodDescriptor yJ3_checkIndex_8e157.desc).map (fun d => d.parameters.length) = some 3 := by decide +kernel
theorem st_J6_bitCount_0f7a4 : Cond.static yJ6_bitCount_0f7a4 ∈ WS := ws_i (mT3 (List.mem_of_getElem? (i := 213) (by decide +kernel))) (by decide +kernel)
theorem co_J6_bitCount_0f7a4 : Cond.code yJ6_bitCount_0f7a4 cJ6_bitCount_0f7a4 1 (some .int) ∈ WS := ws_i (mT3 (List.mem_of_getElem? (i := 214) (by decide +kernel))) (by decide +kernel)
theorem yo_J6_bitCount_0f7a4 : yJ6_bitCount_0f7a4.cls ≠ "java/lang/invoke/MethodHandle" ∧ yJ6_bitCount_0f7a4.cls ≠ "java/lang/invoke/VarHandle" ∧ (parseMethodDescriptor yJ6_bitCount_0f7a4.desc).map (fun d => d.parameters.length) = some 1 := by decide +kernel
theorem st_J6_compare_7cf53 : Cond.static yJ6_compare_7cf53 ∈ WS := ws_i (mT4 (List.mem_of_getElem? (i := 32) (by decide +kernel))) (by decide +kernel)
theorem co_J6_compare_7cf53 : Cond.code yJ6_compare_7cf53 cJ6_compare_7cf53 2 (some .int) ∈ WS := ws_i (mT4 (List.mem_of_getElem? (i := 33) (by decide +kernel))) (by decide +kernel)
theorem yo_J6_compare_7cf53 : yJ6_compare_7cf53.cls ≠ "java/lang/invoke/MethodHandle" ∧ yJ6_compare_7cf53.cls ≠ "java/lang/invoke/VarHandle" ∧ (parseMethodDescriptor yJ6_compare_7cf53.desc).map (fun d => d.parameters.length) = some 2 := by decide +kernel
theorem st_J6_numberOfTrailingZeros_0f7a4 : Cond.static yJ6_numberOfTrailingZeros_0f7a4 ∈ WS := ws_i (mT5 (List.mem_of_getElem? (i := 62) (by decide +kernel))) (by decide +kernel)
theorem co_J6_numberOfTrailingZeros_0f7a4 : Cond.code yJ6_numberOfTrailingZeros_0f7a4 cJ6_numberOfTrailingZeros_0f7a4 2 (some .int) ∈ WS := ws_i (mT5 (List.mem_of_getElem? (i := 63) (by decide +kernel))) (by decide +kernel)
theorem yo_J6_numberOfTrailingZeros_0f7a4 : yJ6_numberOfTrailingZeros_0f7a4.cls ≠ "java/lang/invoke/MethodHandle" ∧ yJ6_numberOfTrailingZeros_0f7a4.cls ≠ "java/lang/invoke/VarHandle" ∧ (parseMethodDescriptor yJ6_numberOfTrailingZeros_0f7a4.desc).map (fun d => d.parameters.length) = some 1 := by decide +kernel
theorem st_J7_fill_53178 : Cond.static yJ7_fill_53178 ∈ WS := ws_i (mT3 (List.mem_of_getElem? (i := 193) (by decide +kernel))) (by decide +kernel)
theorem co_J7_fill_53178 : Cond.code yJ7_fill_53178 cJ7_fill_53178 4 none ∈ WS := ws_i (mT3 (List.mem_of_getElem? (i := 194) (by decide +kernel))) (by decide +kernel)
theorem yo_J7_fill_53178 : yJ7_fill_53178.cls ≠ "java/lang/invoke/MethodHandle" ∧ yJ7_fill_53178.cls ≠ "java/lang/invoke/VarHandle" ∧ (parseMethodDescriptor yJ7_fill_53178.desc).map (fun d => d.parameters.length) = some 2 := by decide +kernel
theorem st_J7_fill_d0a16 : Cond.static yJ7_fill_d0a16 ∈ WS := ws_i (mT5 (List.mem_of_getElem? (i := 74) (by decide +kernel))) (by decide +kernel)
theorem co_J7_fill_d0a16 : Cond.code yJ7_fill_d0a16 cJ7_fill_d0a16 5 none ∈ WS := ws_i (mT5 (List.mem_of_getElem? (i := 75) (by decide +kernel))) (by decide +kernel)
theorem yo_J7_fill_d0a16 : yJ7_fill_d0a16.cls ≠ "java/lang/invoke/MethodHandle" ∧ yJ7_fill_d0a16.cls ≠ "java/lang/invoke/VarHandle" ∧ (parseMethodDescriptor yJ7_fill_d0a16.desc).map (fun d => d.parameters.length) = some 2 := by decide +kernel
theorem st_J9_abs_067f4 : Cond.static yJ9_abs_067f4 ∈ WS := ws_i (mT4 (List.mem_of_getElem? (i := 13) (by decide +kernel))) (by decide +kernel)
theorem yo_J9_abs_067f4 : yJ9_abs_067f4.cls ≠ "java/lang/invoke/MethodHandle" ∧ yJ9_abs_067f4.cls ≠ "java/lang/invoke/VarHandle" ∧ (parseMethodDescriptor yJ9_abs_067f4.desc).map (fun d => d.parameters.length) = some 1 := by decide +kernel
theorem st_J9_abs_0f7a4 : Cond.static yJ9_abs_0f7a4 ∈ WS := ws_i (mT3 (List.mem_of_getElem? (i := 175) (by decide +kernel))) (by decide +kernel)
theorem yo_J9_abs_0f7a4 : yJ9_abs_0f7a4.cls ≠ "java/lang/invoke/MethodHandle" ∧ yJ9_abs_0f7a4.cls ≠ "java/lang/invoke/VarHandle" ∧ (parseMethodDescriptor yJ9_abs_0f7a4.desc).map (fun d => d.parameters.length) = some 1 := by decide +kernel
theorem st_J9_max_7cf53 : Cond.static yJ9_max_7cf53 ∈ WS := ws_i (mT3 (List.mem_of_getElem? (i := 182) (by decide +kernel))) (by decide +kernel)
theorem yo_J9_max_7cf53 : yJ9_max_7cf53.cls ≠ "java/lang/invoke/MethodHandle" ∧ yJ9_max_7cf53.cls ≠ "java/lang/invoke/VarHandle" ∧ (parseMethodDescriptor yJ9_max_7cf53.desc).map (fun d => d.parameters.length) = some 2 := by decide +kernel
theorem st_J9_min_7cf53 : Cond.static yJ9_min_7cf53 ∈ WS := ws_i (mT3 (List.mem_of_getElem? (i := 16) (by decide +kernel))) (by decide +kernel)
theorem yo_J9_min_7cf53 : yJ9_min_7cf53.cls ≠ "java/lang/invoke/MethodHandle" ∧ yJ9_min_7cf53.cls ≠ "java/lang/invoke/VarHandle" ∧ (parseMethodDescriptor yJ9_min_7cf53.desc).map (fun d => d.parameters.length) = some 2 := by decide +kernel
theorem im_X0_addVotesOf : Cond.instanceMethod yX0_addVotesOf ∈ WS := ws_i (mT3 (List.mem_of_getElem? (i := 197) (by decide +kernel))) (by decide +kernel)
theorem se_X0_addVotesOf : Cond.selects RX0 yX0_addVotesOf yX0_addVotesOf ∈ WS := ws_i (mS1 (q := (yX0_addVotesOf, 9)) (List.mem_of_getElem? (i := 14) (by decide +kernel))) (by decide +kernel)
theorem co_X0_addVotesOf : Cond.code yX0_addVotesOf cX0_addVotesOf 4 none ∈ WS := ws_i (mT3 (List.mem_of_getElem? (i := 198) (by decide +kernel))) (by decide +kernel)
theorem yo_X0_addVotesOf : yX0_addVotesOf.cls ≠ "java/lang/invoke/MethodHandle" ∧ yX0_addVotesOf.cls ≠ "java/lang/invoke/VarHandle" ∧ (parseMethodDescriptor yX0_addVotesOf.desc).map (fun d => d.parameters.length) = some 1 := by decide +kernel
theorem im_X0_findBeaters : Cond.instanceMethod yX0_findBeaters ∈ WS := ws_i (mT3 (List.mem_of_getElem? (i := 202) (by decide +kernel))) (by decide +kernel)
theorem se_X0_findBeaters : Cond.selects RX0 yX0_findBeaters yX0_findBeaters ∈ WS := ws_i (mS1 (q := (yX0_findBeaters, 9)) (List.mem_of_getElem? (i := 15) (by decide +kernel))) (by decide +kernel)
theorem co_X0_findBeaters : Cond.code yX0_findBeaters cX0_findBeaters 3 none ∈ WS := ws_i (mT3 (List.mem_of_getElem? (i := 203) (by decide +kernel))) (by decide +kernel)
theorem yo_X0_findBeaters : yX0_findBeaters.cls ≠ "java/lang/invoke/MethodHandle" ∧ yX0_findBeaters.cls ≠ "java/lang/invoke/VarHandle" ∧ (parseMethodDescriptor yX0_findBeaters.desc).map (fun d => d.parameters.length) = some 1 := by decide +kernel
theorem im_X0_forOf : Cond.instanceMethod yX0_forOf ∈ WS := ws_i (mT3 (List.mem_of_getElem? (i := 205) (by decide +kernel))) (by decide +kernel)
theorem se_X0_forOf : Cond.selects RX0 yX0_forOf yX0_forOf ∈ WS := ws_i (mT3 (List.mem_of_getElem? (i := 206) (by decide +kernel))) (by decide +kernel)
theorem co_X0_forOf : Cond.code yX0_forOf cX0_forOf 3 (some .int) ∈ WS := ws_i (mT3 (List.mem_of_getElem? (i := 207) (by decide +kernel))) (by decide +kernel)
theorem yo_X0_forOf : yX0_forOf.cls ≠ "java/lang/invoke/MethodHandle" ∧ yX0_forOf.cls ≠ "java/lang/invoke/VarHandle" ∧ (parseMethodDescriptor yX0_forOf.desc).map (fun d => d.parameters.length) = some 2 := by decide +kernel
theorem im_X0_greatestAgainst : Cond.instanceMethod yX0_greatestAgainst ∈ WS := ws_i (mT5 (List.mem_of_getElem? (i := 99) (by decide +kernel))) (by decide +kernel)
theorem se_X0_greatestAgainst : Cond.selects RX0 yX0_greatestAgainst yX0_greatestAgainst ∈ WS := ws_i (mT5 (List.mem_of_getElem? (i := 100) (by decide +kernel))) (by decide +kernel)
theorem co_X0_greatestAgainst : Cond.code yX0_greatestAgainst cX0_greatestAgainst 4 (some .int) ∈ WS := ws_i (mT5 (List.mem_of_getElem? (i := 101) (by decide +kernel))) (by decide +kernel)
theorem yo_X0_greatestAgainst : yX0_greatestAgainst.cls ≠ "java/lang/invoke/MethodHandle" ∧ yX0_greatestAgainst.cls ≠ "java/lang/invoke/VarHandle" ∧ (parseMethodDescriptor yX0_greatestAgainst.desc).map (fun d => d.parameters.length) = some 1 := by decide +kernel
theorem im_X0_init : Cond.instanceMethod yX0_init ∈ WS := ws_i (mT1 (List.mem_of_getElem? (i := 186) (by decide +kernel))) (by decide +kernel)
theorem co_X0_init : Cond.code yX0_init cX0_init 2 none ∈ WS := ws_i (mT1 (List.mem_of_getElem? (i := 187) (by decide +kernel))) (by decide +kernel)
theorem yo_X0_init : yX0_init.cls ≠ "java/lang/invoke/MethodHandle" ∧ yX0_init.cls ≠ "java/lang/invoke/VarHandle" ∧ (parseMethodDescriptor yX0_init.desc).map (fun d => d.parameters.length) = some 1 := by decide +kernel
theorem im_X0_isBeaten : Cond.instanceMethod yX0_isBeaten ∈ WS := ws_i (mT3 (List.mem_of_getElem? (i := 224) (by decide +kernel))) (by decide +kernel)
theorem se_X0_isBeaten : Cond.selects RX0 yX0_isBeaten yX0_isBeaten ∈ WS := ws_i (mT3 (List.mem_of_getElem? (i := 225) (by decide +kernel))) (by decide +kernel)
theorem co_X0_isBeaten : Cond.code yX0_isBeaten cX0_isBeaten 3 (some .boolean) ∈ WS := ws_i (mT3 (List.mem_of_getElem? (i := 226) (by decide +kernel))) (by decide +kernel)
theorem yo_X0_isBeaten : yX0_isBeaten.cls ≠ "java/lang/invoke/MethodHandle" ∧ yX0_isBeaten.cls ≠ "java/lang/invoke/VarHandle" ∧ (parseMethodDescriptor yX0_isBeaten.desc).map (fun d => d.parameters.length) = some 2 := by decide +kernel
theorem im_X0_isCovered : Cond.instanceMethod yX0_isCovered ∈ WS := ws_i (mT5 (List.mem_of_getElem? (i := 20) (by decide +kernel))) (by decide +kernel)
theorem se_X0_isCovered : Cond.selects RX0 yX0_isCovered yX0_isCovered ∈ WS := ws_i (mS3 (q := (yX0_isCovered, 9)) (List.mem_of_getElem? (i := 8) (by decide +kernel))) (by decide +kernel)
theorem co_X0_isCovered : Cond.code yX0_isCovered cX0_isCovered 3 (some .boolean) ∈ WS := ws_i (mT5 (List.mem_of_getElem? (i := 21) (by decide +kernel))) (by decide +kernel)
theorem yo_X0_isCovered : yX0_isCovered.cls ≠ "java/lang/invoke/MethodHandle" ∧ yX0_isCovered.cls ≠ "java/lang/invoke/VarHandle" ∧ (parseMethodDescriptor yX0_isCovered.desc).map (fun d => d.parameters.length) = some 1 := by decide +kernel
theorem im_X0_leastNeedy : Cond.instanceMethod yX0_leastNeedy ∈ WS := ws_i (mT5 (List.mem_of_getElem? (i := 95) (by decide +kernel))) (by decide +kernel)
theorem se_X0_leastNeedy : Cond.selects RX0 yX0_leastNeedy yX0_leastNeedy ∈ WS := ws_i (mT5 (List.mem_of_getElem? (i := 96) (by decide +kernel))) (by decide +kernel)
theorem co_X0_leastNeedy : Cond.code yX0_leastNeedy cX0_leastNeedy 3 (some .int) ∈ WS := ws_i (mT5 (List.mem_of_getElem? (i := 97) (by decide +kernel))) (by decide +kernel)
theorem yo_X0_leastNeedy : yX0_leastNeedy.cls ≠ "java/lang/invoke/MethodHandle" ∧ yX0_leastNeedy.cls ≠ "java/lang/invoke/VarHandle" ∧ (parseMethodDescriptor yX0_leastNeedy.desc).map (fun d => d.parameters.length) = some 0 := by decide +kernel
theorem im_X0_measureSteps : Cond.instanceMethod yX0_measureSteps ∈ WS := ws_i (mT4 (List.mem_of_getElem? (i := 233) (by decide +kernel))) (by decide +kernel)
theorem se_X0_measureSteps : Cond.selects RX0 yX0_measureSteps yX0_measureSteps ∈ WS := ws_i (mT4 (List.mem_of_getElem? (i := 234) (by decide +kernel))) (by decide +kernel)
theorem co_X0_measureSteps : Cond.code yX0_measureSteps cX0_measureSteps 6 (some .int) ∈ WS := ws_i (mT4 (List.mem_of_getElem? (i := 235) (by decide +kernel))) (by decide +kernel)
theorem yo_X0_measureSteps : yX0_measureSteps.cls ≠ "java/lang/invoke/MethodHandle" ∧ yX0_measureSteps.cls ≠ "java/lang/invoke/VarHandle" ∧ (parseMethodDescriptor yX0_measureSteps.desc).map (fun d => d.parameters.length) = some 1 := by decide +kernel
theorem im_X0_nextFrom : Cond.instanceMethod yX0_nextFrom ∈ WS := ws_i (mT5 (List.mem_of_getElem? (i := 2) (by decide +kernel))) (by decide +kernel)
theorem se_X0_nextFrom : Cond.selects RX0 yX0_nextFrom yX0_nextFrom ∈ WS := ws_i (mS3 (q := (yX0_nextFrom, 9)) (List.mem_of_getElem? (i := 7) (by decide +kernel))) (by decide +kernel)
theorem co_X0_nextFrom : Cond.code yX0_nextFrom cX0_nextFrom 3 (some .int) ∈ WS := ws_i (mT5 (List.mem_of_getElem? (i := 3) (by decide +kernel))) (by decide +kernel)
theorem yo_X0_nextFrom : yX0_nextFrom.cls ≠ "java/lang/invoke/MethodHandle" ∧ yX0_nextFrom.cls ≠ "java/lang/invoke/VarHandle" ∧ (parseMethodDescriptor yX0_nextFrom.desc).map (fun d => d.parameters.length) = some 1 := by decide +kernel
theorem im_X0_reachingAll : Cond.instanceMethod yX0_reachingAll ∈ WS := ws_i (mT5 (List.mem_of_getElem? (i := 10) (by decide +kernel))) (by decide +kernel)
theorem se_X0_reachingAll : Cond.selects RX0 yX0_reachingAll yX0_reachingAll ∈ WS := ws_i (mT5 (List.mem_of_getElem? (i := 11) (by decide +kernel))) (by decide +kernel)
theorem co_X0_reachingAll : Cond.code yX0_reachingAll cX0_reachingAll 4 (some .int) ∈ WS := ws_i (mT5 (List.mem_of_getElem? (i := 12) (by decide +kernel))) (by decide +kernel)
theorem yo_X0_reachingAll : yX0_reachingAll.cls ≠ "java/lang/invoke/MethodHandle" ∧ yX0_reachingAll.cls ≠ "java/lang/invoke/VarHandle" ∧ (parseMethodDescriptor yX0_reachingAll.desc).map (fun d => d.parameters.length) = some 0 := by decide +kernel
theorem im_X0_refresh : Cond.instanceMethod yX0_refresh ∈ WS := ws_i (mT3 (List.mem_of_getElem? (i := 189) (by decide +kernel))) (by decide +kernel)
theorem se_X0_refresh : Cond.selects RX0 yX0_refresh yX0_refresh ∈ WS := ws_i (mT3 (List.mem_of_getElem? (i := 190) (by decide +kernel))) (by decide +kernel)
theorem co_X0_refresh : Cond.code yX0_refresh cX0_refresh 2 none ∈ WS := ws_i (mT3 (List.mem_of_getElem? (i := 191) (by decide +kernel))) (by decide +kernel)
theorem yo_X0_refresh : yX0_refresh.cls ≠ "java/lang/invoke/MethodHandle" ∧ yX0_refresh.cls ≠ "java/lang/invoke/VarHandle" ∧ (parseMethodDescriptor yX0_refresh.desc).map (fun d => d.parameters.length) = some 0 := by decide +kernel
theorem im_X0_uncovered : Cond.instanceMethod yX0_uncovered ∈ WS := ws_i (mT5 (List.mem_of_getElem? (i := 15) (by decide +kernel))) (by decide +kernel)
theorem se_X0_uncovered : Cond.selects RX0 yX0_uncovered yX0_uncovered ∈ WS := ws_i (mT5 (List.mem_of_getElem? (i := 16) (by decide +kernel))) (by decide +kernel)
theorem co_X0_uncovered : Cond.code yX0_uncovered cX0_uncovered 3 (some .int) ∈ WS := ws_i (mT5 (List.mem_of_getElem? (i := 17) (by decide +kernel))) (by decide +kernel)
theorem yo_X0_uncovered : yX0_uncovered.cls ≠ "java/lang/invoke/MethodHandle" ∧ yX0_uncovered.cls ≠ "java/lang/invoke/VarHandle" ∧ (parseMethodDescriptor yX0_uncovered.desc).map (fun d => d.parameters.length) = some 0 := by decide +kernel
theorem im_X0_walk : Cond.instanceMethod yX0_walk ∈ WS := ws_i (mT4 (List.mem_of_getElem? (i := 237) (by decide +kernel))) (by decide +kernel)
theorem se_X0_walk : Cond.selects RX0 yX0_walk yX0_walk ∈ WS := ws_i (mT4 (List.mem_of_getElem? (i := 238) (by decide +kernel))) (by decide +kernel)
theorem co_X0_walk : Cond.code yX0_walk cX0_walk 5 (some .int) ∈ WS := ws_i (mT4 (List.mem_of_getElem? (i := 239) (by decide +kernel))) (by decide +kernel)
theorem yo_X0_walk : yX0_walk.cls ≠ "java/lang/invoke/MethodHandle" ∧ yX0_walk.cls ≠ "java/lang/invoke/VarHandle" ∧ (parseMethodDescriptor yX0_walk.desc).map (fun d => d.parameters.length) = some 2 := by decide +kernel
theorem im_X10_beats : Cond.instanceMethod yX10_beats ∈ WS := ws_i (mT3 (List.mem_of_getElem? (i := 220) (by decide +kernel))) (by decide +kernel)
theorem se_X10_beats : Cond.selects RX10 yX10_beats yX10_beats ∈ WS := ws_i (mT3 (List.mem_of_getElem? (i := 221) (by decide +kernel))) (by decide +kernel)
theorem co_X10_beats : Cond.code yX10_beats cX10_beats 3 (some .boolean) ∈ WS := ws_i (mT3 (List.mem_of_getElem? (i := 222) (by decide +kernel))) (by decide +kernel)
theorem yo_X10_beats : yX10_beats.cls ≠ "java/lang/invoke/MethodHandle" ∧ yX10_beats.cls ≠ "java/lang/invoke/VarHandle" ∧ (parseMethodDescriptor yX10_beats.desc).map (fun d => d.parameters.length) = some 2 := by decide +kernel
theorem im_X10_best : Cond.instanceMethod yX10_best ∈ WS := ws_i (mT5 (List.mem_of_getElem? (i := 6) (by decide +kernel))) (by decide +kernel)
theorem se_X10_best : Cond.selects RX10 yX10_best yX10_best ∈ WS := ws_i (mT5 (List.mem_of_getElem? (i := 7) (by decide +kernel))) (by decide +kernel)
theorem co_X10_best : Cond.code yX10_best cX10_best 2 (some .int) ∈ WS := ws_i (mT5 (List.mem_of_getElem? (i := 8) (by decide +kernel))) (by decide +kernel)
theorem yo_X10_best : yX10_best.cls ≠ "java/lang/invoke/MethodHandle" ∧ yX10_best.cls ≠ "java/lang/invoke/VarHandle" ∧ (parseMethodDescriptor yX10_best.desc).map (fun d => d.parameters.length) = some 1 := by decide +kernel
theorem im_X10_between : Cond.instanceMethod yX10_between ∈ WS := ws_i (mT5 (List.mem_of_getElem? (i := 23) (by decide +kernel))) (by decide +kernel)
theorem se_X10_between : Cond.selects RX10 yX10_between yX10_between ∈ WS := ws_i (mT5 (List.mem_of_getElem? (i := 24) (by decide +kernel))) (by decide +kernel)
theorem co_X10_between : Cond.code yX10_between cX10_between 4 (some .int) ∈ WS := ws_i (mT5 (List.mem_of_getElem? (i := 25) (by decide +kernel))) (by decide +kernel)
theorem yo_X10_between : yX10_between.cls ≠ "java/lang/invoke/MethodHandle" ∧ yX10_between.cls ≠ "java/lang/invoke/VarHandle" ∧ (parseMethodDescriptor yX10_between.desc).map (fun d => d.parameters.length) = some 2 := by decide +kernel
theorem st_X10_commonPart : Cond.static yX10_commonPart ∈ WS := ws_i (mT4 (List.mem_of_getElem? (i := 10) (by decide +kernel))) (by decide +kernel)
theorem co_X10_commonPart : Cond.code yX10_commonPart cX10_commonPart 11 (some .long) ∈ WS := ws_i (mT4 (List.mem_of_getElem? (i := 11) (by decide +kernel))) (by decide +kernel)
theorem yo_X10_commonPart : yX10_commonPart.cls ≠ "java/lang/invoke/MethodHandle" ∧ yX10_commonPart.cls ≠ "java/lang/invoke/VarHandle" ∧ (parseMethodDescriptor yX10_commonPart.desc).map (fun d => d.parameters.length) = some 2 := by decide +kernel
theorem im_X10_count : Cond.instanceMethod yX10_count ∈ WS := ws_i (mT5 (List.mem_of_getElem? (i := 213) (by decide +kernel))) (by decide +kernel)
theorem se_X10_count : Cond.selects RX10 yX10_count yX10_count ∈ WS := ws_i (mT5 (List.mem_of_getElem? (i := 214) (by decide +kernel))) (by decide +kernel)
theorem co_X10_count : Cond.code yX10_count cX10_count 2 (some .int) ∈ WS := ws_i (mT5 (List.mem_of_getElem? (i := 215) (by decide +kernel))) (by decide +kernel)
theorem yo_X10_count : yX10_count.cls ≠ "java/lang/invoke/MethodHandle" ∧ yX10_count.cls ≠ "java/lang/invoke/VarHandle" ∧ (parseMethodDescriptor yX10_count.desc).map (fun d => d.parameters.length) = some 1 := by decide +kernel
theorem im_X10_doubt : Cond.instanceMethod yX10_doubt ∈ WS := ws_i (mT5 (List.mem_of_getElem? (i := 163) (by decide +kernel))) (by decide +kernel)
theorem se_X10_doubt : Cond.selects RX10 yX10_doubt yX10_doubt ∈ WS := ws_i (mT5 (List.mem_of_getElem? (i := 164) (by decide +kernel))) (by decide +kernel)
theorem co_X10_doubt : Cond.code yX10_doubt cX10_doubt 3 (some .int) ∈ WS := ws_i (mT5 (List.mem_of_getElem? (i := 165) (by decide +kernel))) (by decide +kernel)
theorem yo_X10_doubt : yX10_doubt.cls ≠ "java/lang/invoke/MethodHandle" ∧ yX10_doubt.cls ≠ "java/lang/invoke/VarHandle" ∧ (parseMethodDescriptor yX10_doubt.desc).map (fun d => d.parameters.length) = some 2 := by decide +kernel
theorem im_X10_end : Cond.instanceMethod yX10_end ∈ WS := ws_i (mT2 (List.mem_of_getElem? (i := 228) (by decide +kernel))) (by decide +kernel)
theorem se_X10_end : Cond.selects RX10 yX10_end yX10_end ∈ WS := ws_i (mT2 (List.mem_of_getElem? (i := 229) (by decide +kernel))) (by decide +kernel)
theorem co_X10_end : Cond.code yX10_end cX10_end 2 (some .boolean) ∈ WS := ws_i (mT2 (List.mem_of_getElem? (i := 230) (by decide +kernel))) (by decide +kernel)
theorem yo_X10_end : yX10_end.cls ≠ "java/lang/invoke/MethodHandle" ∧ yX10_end.cls ≠ "java/lang/invoke/VarHandle" ∧ (parseMethodDescriptor yX10_end.desc).map (fun d => d.parameters.length) = some 1 := by decide +kernel
theorem im_X10_fault : Cond.instanceMethod yX10_fault ∈ WS := ws_i (mT2 (List.mem_of_getElem? (i := 232) (by decide +kernel))) (by decide +kernel)
theorem se_X10_fault : Cond.selects RX10 yX10_fault yX10_fault ∈ WS := ws_i (mT2 (List.mem_of_getElem? (i := 233) (by decide +kernel))) (by decide +kernel)
theorem co_X10_fault : Cond.code yX10_fault cX10_fault 1 (some .int) ∈ WS := ws_i (mT2 (List.mem_of_getElem? (i := 234) (by decide +kernel))) (by decide +kernel)
theorem yo_X10_fault : yX10_fault.cls ≠ "java/lang/invoke/MethodHandle" ∧ yX10_fault.cls ≠ "java/lang/invoke/VarHandle" ∧ (parseMethodDescriptor yX10_fault.desc).map (fun d => d.parameters.length) = some 0 := by decide +kernel
theorem im_X10_feed : Cond.instanceMethod yX10_feed ∈ WS := ws_i (mT2 (List.mem_of_getElem? (i := 220) (by decide +kernel))) (by decide +kernel)
theorem se_X10_feed : Cond.selects RX10 yX10_feed yX10_feed ∈ WS := ws_i (mT2 (List.mem_of_getElem? (i := 221) (by decide +kernel))) (by decide +kernel)
theorem co_X10_feed : Cond.code yX10_feed cX10_feed 6 (some .int) ∈ WS := ws_i (mT2 (List.mem_of_getElem? (i := 222) (by decide +kernel))) (by decide +kernel)
theorem yo_X10_feed : yX10_feed.cls ≠ "java/lang/invoke/MethodHandle" ∧ yX10_feed.cls ≠ "java/lang/invoke/VarHandle" ∧ (parseMethodDescriptor yX10_feed.desc).map (fun d => d.parameters.length) = some 5 := by decide +kernel
theorem im_X10_fieldFrom : Cond.instanceMethod yX10_fieldFrom ∈ WS := ws_i (mT4 (List.mem_of_getElem? (i := 134) (by decide +kernel))) (by decide +kernel)
theorem se_X10_fieldFrom : Cond.selects RX10 yX10_fieldFrom yX10_fieldFrom ∈ WS := ws_i (mS3 (q := (yX10_fieldFrom, 10)) (List.mem_of_getElem? (i := 1) (by decide +kernel))) (by decide +kernel)
theorem co_X10_fieldFrom : Cond.code yX10_fieldFrom cX10_fieldFrom 4 (some (.object "MiddleSheet$Field")) ∈ WS := ws_i (mT4 (List.mem_of_getElem? (i := 135) (by decide +kernel))) (by decide +kernel)
theorem yo_X10_fieldFrom : yX10_fieldFrom.cls ≠ "java/lang/invoke/MethodHandle" ∧ yX10_fieldFrom.cls ≠ "java/lang/invoke/VarHandle" ∧ (parseMethodDescriptor yX10_fieldFrom.desc).map (fun d => d.parameters.length) = some 2 := by decide +kernel
theorem im_X10_init : Cond.instanceMethod yX10_init ∈ WS := ws_i (mT1 (List.mem_of_getElem? (i := 24) (by decide +kernel))) (by decide +kernel)
theorem co_X10_init : Cond.code yX10_init cX10_init 1 none ∈ WS := ws_i (mT1 (List.mem_of_getElem? (i := 25) (by decide +kernel))) (by decide +kernel)
theorem yo_X10_init : yX10_init.cls ≠ "java/lang/invoke/MethodHandle" ∧ yX10_init.cls ≠ "java/lang/invoke/VarHandle" ∧ (parseMethodDescriptor yX10_init.desc).map (fun d => d.parameters.length) = some 0 := by decide +kernel
theorem st_X10_isPoint : Cond.static yX10_isPoint ∈ WS := ws_i (mT3 (List.mem_of_getElem? (i := 163) (by decide +kernel))) (by decide +kernel)
theorem co_X10_isPoint : Cond.code yX10_isPoint cX10_isPoint 2 (some .boolean) ∈ WS := ws_i (mT3 (List.mem_of_getElem? (i := 164) (by decide +kernel))) (by decide +kernel)
theorem yo_X10_isPoint : yX10_isPoint.cls ≠ "java/lang/invoke/MethodHandle" ∧ yX10_isPoint.cls ≠ "java/lang/invoke/VarHandle" ∧ (parseMethodDescriptor yX10_isPoint.desc).map (fun d => d.parameters.length) = some 2 := by decide +kernel
theorem im_X10_join : Cond.instanceMethod yX10_join ∈ WS := ws_i (mT5 (List.mem_of_getElem? (i := 145) (by decide +kernel))) (by decide +kernel)
theorem se_X10_join : Cond.selects RX10 yX10_join yX10_join ∈ WS := ws_i (mT5 (List.mem_of_getElem? (i := 146) (by decide +kernel))) (by decide +kernel)
theorem co_X10_join : Cond.code yX10_join cX10_join 2 (some .int) ∈ WS := ws_i (mT5 (List.mem_of_getElem? (i := 147) (by decide +kernel))) (by decide +kernel)
theorem yo_X10_join : yX10_join.cls ≠ "java/lang/invoke/MethodHandle" ∧ yX10_join.cls ≠ "java/lang/invoke/VarHandle" ∧ (parseMethodDescriptor yX10_join.desc).map (fun d => d.parameters.length) = some 1 := by decide +kernel
theorem im_X10_led : Cond.instanceMethod yX10_led ∈ WS := ws_i (mT4 (List.mem_of_getElem? (i := 229) (by decide +kernel))) (by decide +kernel)
theorem se_X10_led : Cond.selects RX10 yX10_led yX10_led ∈ WS := ws_i (mT4 (List.mem_of_getElem? (i := 230) (by decide +kernel))) (by decide +kernel)
theorem co_X10_led : Cond.code yX10_led cX10_led 5 (some .int) ∈ WS := ws_i (mT4 (List.mem_of_getElem? (i := 231) (by decide +kernel))) (by decide +kernel)
theorem yo_X10_led : yX10_led.cls ≠ "java/lang/invoke/MethodHandle" ∧ yX10_led.cls ≠ "java/lang/invoke/VarHandle" ∧ (parseMethodDescriptor yX10_led.desc).map (fun d => d.parameters.length) = some 3 := by decide +kernel
theorem im_X10_line : Cond.instanceMethod yX10_line ∈ WS := ws_i (mT3 (List.mem_of_getElem? (i := 238) (by decide +kernel))) (by decide +kernel)
theorem se_X10_line : Cond.selects RX10 yX10_line yX10_line ∈ WS := ws_i (mT3 (List.mem_of_getElem? (i := 239) (by decide +kernel))) (by decide +kernel)
theorem co_X10_line : Cond.code yX10_line cX10_line 3 (some .int) ∈ WS := ws_i (mT4 (List.mem_of_getElem? (i := 0) (by decide +kernel))) (by decide +kernel)
theorem yo_X10_line : yX10_line.cls ≠ "java/lang/invoke/MethodHandle" ∧ yX10_line.cls ≠ "java/lang/invoke/VarHandle" ∧ (parseMethodDescriptor yX10_line.desc).map (fun d => d.parameters.length) = some 2 := by decide +kernel
theorem im_X10_lot : Cond.instanceMethod yX10_lot ∈ WS := ws_i (mT5 (List.mem_of_getElem? (i := 87) (by decide +kernel))) (by decide +kernel)
theorem se_X10_lot : Cond.selects RX10 yX10_lot yX10_lot ∈ WS := ws_i (mT5 (List.mem_of_getElem? (i := 88) (by decide +kernel))) (by decide +kernel)
theorem co_X10_lot : Cond.code yX10_lot cX10_lot 2 (some .int) ∈ WS := ws_i (mT5 (List.mem_of_getElem? (i := 89) (by decide +kernel))) (by decide +kernel)
theorem yo_X10_lot : yX10_lot.cls ≠ "java/lang/invoke/MethodHandle" ∧ yX10_lot.cls ≠ "java/lang/invoke/VarHandle" ∧ (parseMethodDescriptor yX10_lot.desc).map (fun d => d.parameters.length) = some 1 := by decide +kernel
theorem im_X10_make : Cond.instanceMethod yX10_make ∈ WS := ws_i (mT5 (List.mem_of_getElem? (i := 113) (by decide +kernel))) (by decide +kernel)
theorem se_X10_make : Cond.selects RX10 yX10_make yX10_make ∈ WS := ws_i (mT5 (List.mem_of_getElem? (i := 114) (by decide +kernel))) (by decide +kernel)
theorem co_X10_make : Cond.code yX10_make cX10_make 2 (some .int) ∈ WS := ws_i (mT5 (List.mem_of_getElem? (i := 115) (by decide +kernel))) (by decide +kernel)
theorem yo_X10_make : yX10_make.cls ≠ "java/lang/invoke/MethodHandle" ∧ yX10_make.cls ≠ "java/lang/invoke/VarHandle" ∧ (parseMethodDescriptor yX10_make.desc).map (fun d => d.parameters.length) = some 1 := by decide +kernel
theorem im_X10_middle : Cond.instanceMethod yX10_middle ∈ WS := ws_i (mT4 (List.mem_of_getElem? (i := 36) (by decide +kernel))) (by decide +kernel)
theorem se_X10_middle : Cond.selects RX10 yX10_middle yX10_middle ∈ WS := ws_i (mT4 (List.mem_of_getElem? (i := 37) (by decide +kernel))) (by decide +kernel)
theorem co_X10_middle : Cond.code yX10_middle cX10_middle 3 (some .int) ∈ WS := ws_i (mT4 (List.mem_of_getElem? (i := 38) (by decide +kernel))) (by decide +kernel)
theorem yo_X10_middle : yX10_middle.cls ≠ "java/lang/invoke/MethodHandle" ∧ yX10_middle.cls ≠ "java/lang/invoke/VarHandle" ∧ (parseMethodDescriptor yX10_middle.desc).map (fun d => d.parameters.length) = some 2 := by decide +kernel
theorem im_X10_most : Cond.instanceMethod yX10_most ∈ WS := ws_i (mT5 (List.mem_of_getElem? (i := 105) (by decide +kernel))) (by decide +kernel)
theorem se_X10_most : Cond.selects RX10 yX10_most yX10_most ∈ WS := ws_i (mT5 (List.mem_of_getElem? (i := 106) (by decide +kernel))) (by decide +kernel)
theorem co_X10_most : Cond.code yX10_most cX10_most 3 (some .int) ∈ WS := ws_i (mT5 (List.mem_of_getElem? (i := 107) (by decide +kernel))) (by decide +kernel)
theorem yo_X10_most : yX10_most.cls ≠ "java/lang/invoke/MethodHandle" ∧ yX10_most.cls ≠ "java/lang/invoke/VarHandle" ∧ (parseMethodDescriptor yX10_most.desc).map (fun d => d.parameters.length) = some 2 := by decide +kernel
theorem im_X10_move : Cond.instanceMethod yX10_move ∈ WS := ws_i (mT5 (List.mem_of_getElem? (i := 176) (by decide +kernel))) (by decide +kernel)
theorem se_X10_move : Cond.selects RX10 yX10_move yX10_move ∈ WS := ws_i (mT5 (List.mem_of_getElem? (i := 177) (by decide +kernel))) (by decide +kernel)
theorem co_X10_move : Cond.code yX10_move cX10_move 4 (some .int) ∈ WS := ws_i (mT5 (List.mem_of_getElem? (i := 178) (by decide +kernel))) (by decide +kernel)
theorem yo_X10_move : yX10_move.cls ≠ "java/lang/invoke/MethodHandle" ∧ yX10_move.cls ≠ "java/lang/invoke/VarHandle" ∧ (parseMethodDescriptor yX10_move.desc).map (fun d => d.parameters.length) = some 3 := by decide +kernel
theorem im_X10_moved : Cond.instanceMethod yX10_moved ∈ WS := ws_i (mT5 (List.mem_of_getElem? (i := 209) (by decide +kernel))) (by decide +kernel)
theorem se_X10_moved : Cond.selects RX10 yX10_moved yX10_moved ∈ WS := ws_i (mT5 (List.mem_of_getElem? (i := 210) (by decide +kernel))) (by decide +kernel)
theorem co_X10_moved : Cond.code yX10_moved cX10_moved 3 (some .int) ∈ WS := ws_i (mT5 (List.mem_of_getElem? (i := 211) (by decide +kernel))) (by decide +kernel)
theorem yo_X10_moved : yX10_moved.cls ≠ "java/lang/invoke/MethodHandle" ∧ yX10_moved.cls ≠ "java/lang/invoke/VarHandle" ∧ (parseMethodDescriptor yX10_moved.desc).map (fun d => d.parameters.length) = some 2 := by decide +kernel
theorem im_X10_need : Cond.instanceMethod yX10_need ∈ WS := ws_i (mT5 (List.mem_of_getElem? (i := 91) (by decide +kernel))) (by decide +kernel)
theorem se_X10_need : Cond.selects RX10 yX10_need yX10_need ∈ WS := ws_i (mT5 (List.mem_of_getElem? (i := 92) (by decide +kernel))) (by decide +kernel)
theorem co_X10_need : Cond.code yX10_need cX10_need 2 (some .int) ∈ WS := ws_i (mT5 (List.mem_of_getElem? (i := 93) (by decide +kernel))) (by decide +kernel)
theorem yo_X10_need : yX10_need.cls ≠ "java/lang/invoke/MethodHandle" ∧ yX10_need.cls ≠ "java/lang/invoke/VarHandle" ∧ (parseMethodDescriptor yX10_need.desc).map (fun d => d.parameters.length) = some 1 := by decide +kernel
theorem im_X10_peace : Cond.instanceMethod yX10_peace ∈ WS := ws_i (mT5 (List.mem_of_getElem? (i := 109) (by decide +kernel))) (by decide +kernel)
theorem se_X10_peace : Cond.selects RX10 yX10_peace yX10_peace ∈ WS := ws_i (mT5 (List.mem_of_getElem? (i := 110) (by decide +kernel))) (by decide +kernel)
theorem co_X10_peace : Cond.code yX10_peace cX10_peace 1 (some .int) ∈ WS := ws_i (mT5 (List.mem_of_getElem? (i := 111) (by decide +kernel))) (by decide +kernel)
theorem yo_X10_peace : yX10_peace.cls ≠ "java/lang/invoke/MethodHandle" ∧ yX10_peace.cls ≠ "java/lang/invoke/VarHandle" ∧ (parseMethodDescriptor yX10_peace.desc).map (fun d => d.parameters.length) = some 0 := by decide +kernel
theorem im_X10_piece : Cond.instanceMethod yX10_piece ∈ WS := ws_i (mT4 (List.mem_of_getElem? (i := 217) (by decide +kernel))) (by decide +kernel)
theorem se_X10_piece : Cond.selects RX10 yX10_piece yX10_piece ∈ WS := ws_i (mT4 (List.mem_of_getElem? (i := 218) (by decide +kernel))) (by decide +kernel)
theorem co_X10_piece : Cond.code yX10_piece cX10_piece 7 (some .int) ∈ WS := ws_i (mT4 (List.mem_of_getElem? (i := 219) (by decide +kernel))) (by decide +kernel)
theorem yo_X10_piece : yX10_piece.cls ≠ "java/lang/invoke/MethodHandle" ∧ yX10_piece.cls ≠ "java/lang/invoke/VarHandle" ∧ (parseMethodDescriptor yX10_piece.desc).map (fun d => d.parameters.length) = some 4 := by decide +kernel
theorem im_X10_place : Cond.instanceMethod yX10_place ∈ WS := ws_i (mT3 (List.mem_of_getElem? (i := 151) (by decide +kernel))) (by decide +kernel)
theorem se_X10_place : Cond.selects RX10 yX10_place yX10_place ∈ WS := ws_i (mT3 (List.mem_of_getElem? (i := 152) (by decide +kernel))) (by decide +kernel)
theorem co_X10_place : Cond.code yX10_place cX10_place 3 (some .int) ∈ WS := ws_i (mT3 (List.mem_of_getElem? (i := 153) (by decide +kernel))) (by decide +kernel)
theorem yo_X10_place : yX10_place.cls ≠ "java/lang/invoke/MethodHandle" ∧ yX10_place.cls ≠ "java/lang/invoke/VarHandle" ∧ (parseMethodDescriptor yX10_place.desc).map (fun d => d.parameters.length) = some 2 := by decide +kernel
theorem im_X10_proof : Cond.instanceMethod yX10_proof ∈ WS := ws_i (mT4 (List.mem_of_getElem? (i := 95) (by decide +kernel))) (by decide +kernel)
theorem se_X10_proof : Cond.selects RX10 yX10_proof yX10_proof ∈ WS := ws_i (mT4 (List.mem_of_getElem? (i := 96) (by decide +kernel))) (by decide +kernel)
theorem co_X10_proof : Cond.code yX10_proof cX10_proof 2 (some .int) ∈ WS := ws_i (mT4 (List.mem_of_getElem? (i := 97) (by decide +kernel))) (by decide +kernel)
theorem yo_X10_proof : yX10_proof.cls ≠ "java/lang/invoke/MethodHandle" ∧ yX10_proof.cls ≠ "java/lang/invoke/VarHandle" ∧ (parseMethodDescriptor yX10_proof.desc).map (fun d => d.parameters.length) = some 1 := by decide +kernel
theorem im_X10_propose : Cond.instanceMethod yX10_propose ∈ WS := ws_i (mT3 (List.mem_of_getElem? (i := 159) (by decide +kernel))) (by decide +kernel)
theorem se_X10_propose : Cond.selects RX10 yX10_propose yX10_propose ∈ WS := ws_i (mT3 (List.mem_of_getElem? (i := 160) (by decide +kernel))) (by decide +kernel)
theorem co_X10_propose : Cond.code yX10_propose cX10_propose 3 (some .int) ∈ WS := ws_i (mT3 (List.mem_of_getElem? (i := 161) (by decide +kernel))) (by decide +kernel)
theorem yo_X10_propose : yX10_propose.cls ≠ "java/lang/invoke/MethodHandle" ∧ yX10_propose.cls ≠ "java/lang/invoke/VarHandle" ∧ (parseMethodDescriptor yX10_propose.desc).map (fun d => d.parameters.length) = some 2 := by decide +kernel
theorem im_X10_rest : Cond.instanceMethod yX10_rest ∈ WS := ws_i (mT5 (List.mem_of_getElem? (i := 35) (by decide +kernel))) (by decide +kernel)
theorem se_X10_rest : Cond.selects RX10 yX10_rest yX10_rest ∈ WS := ws_i (mT5 (List.mem_of_getElem? (i := 36) (by decide +kernel))) (by decide +kernel)
theorem co_X10_rest : Cond.code yX10_rest cX10_rest 1 (some .int) ∈ WS := ws_i (mT5 (List.mem_of_getElem? (i := 37) (by decide +kernel))) (by decide +kernel)
theorem yo_X10_rest : yX10_rest.cls ≠ "java/lang/invoke/MethodHandle" ∧ yX10_rest.cls ≠ "java/lang/invoke/VarHandle" ∧ (parseMethodDescriptor yX10_rest.desc).map (fun d => d.parameters.length) = some 0 := by decide +kernel
theorem im_X10_round : Cond.instanceMethod yX10_round ∈ WS := ws_i (mT4 (List.mem_of_getElem? (i := 99) (by decide +kernel))) (by decide +kernel)
theorem se_X10_round : Cond.selects RX10 yX10_round yX10_round ∈ WS := ws_i (mT4 (List.mem_of_getElem? (i := 100) (by decide +kernel))) (by decide +kernel)
theorem co_X10_round : Cond.code yX10_round cX10_round 2 (some .int) ∈ WS := ws_i (mT4 (List.mem_of_getElem? (i := 101) (by decide +kernel))) (by decide +kernel)
theorem yo_X10_round : yX10_round.cls ≠ "java/lang/invoke/MethodHandle" ∧ yX10_round.cls ≠ "java/lang/invoke/VarHandle" ∧ (parseMethodDescriptor yX10_round.desc).map (fun d => d.parameters.length) = some 1 := by decide +kernel
theorem im_X10_sheet : Cond.instanceMethod yX10_sheet ∈ WS := ws_i (mT3 (List.mem_of_getElem? (i := 132) (by decide +kernel))) (by decide +kernel)
theorem se_X10_sheet : Cond.selects RX10 yX10_sheet yX10_sheet ∈ WS := ws_i (mT3 (List.mem_of_getElem? (i := 133) (by decide +kernel))) (by decide +kernel)
theorem co_X10_sheet : Cond.code yX10_sheet cX10_sheet 1 (some .int) ∈ WS := ws_i (mT3 (List.mem_of_getElem? (i := 134) (by decide +kernel))) (by decide +kernel)
theorem yo_X10_sheet : yX10_sheet.cls ≠ "java/lang/invoke/MethodHandle" ∧ yX10_sheet.cls ≠ "java/lang/invoke/VarHandle" ∧ (parseMethodDescriptor yX10_sheet.desc).map (fun d => d.parameters.length) = some 0 := by decide +kernel
theorem im_X10_undo : Cond.instanceMethod yX10_undo ∈ WS := ws_i (mT5 (List.mem_of_getElem? (i := 201) (by decide +kernel))) (by decide +kernel)
theorem se_X10_undo : Cond.selects RX10 yX10_undo yX10_undo ∈ WS := ws_i (mT5 (List.mem_of_getElem? (i := 202) (by decide +kernel))) (by decide +kernel)
theorem co_X10_undo : Cond.code yX10_undo cX10_undo 3 (some .int) ∈ WS := ws_i (mT5 (List.mem_of_getElem? (i := 203) (by decide +kernel))) (by decide +kernel)
theorem yo_X10_undo : yX10_undo.cls ≠ "java/lang/invoke/MethodHandle" ∧ yX10_undo.cls ≠ "java/lang/invoke/VarHandle" ∧ (parseMethodDescriptor yX10_undo.desc).map (fun d => d.parameters.length) = some 0 := by decide +kernel
theorem im_X10_voter : Cond.instanceMethod yX10_voter ∈ WS := ws_i (mT3 (List.mem_of_getElem? (i := 143) (by decide +kernel))) (by decide +kernel)
theorem se_X10_voter : Cond.selects RX10 yX10_voter yX10_voter ∈ WS := ws_i (mT3 (List.mem_of_getElem? (i := 144) (by decide +kernel))) (by decide +kernel)
theorem co_X10_voter : Cond.code yX10_voter cX10_voter 3 (some .int) ∈ WS := ws_i (mT3 (List.mem_of_getElem? (i := 145) (by decide +kernel))) (by decide +kernel)
theorem yo_X10_voter : yX10_voter.cls ≠ "java/lang/invoke/MethodHandle" ∧ yX10_voter.cls ≠ "java/lang/invoke/VarHandle" ∧ (parseMethodDescriptor yX10_voter.desc).map (fun d => d.parameters.length) = some 2 := by decide +kernel
theorem im_X10_votes : Cond.instanceMethod yX10_votes ∈ WS := ws_i (mT3 (List.mem_of_getElem? (i := 185) (by decide +kernel))) (by decide +kernel)
theorem se_X10_votes : Cond.selects RX10 yX10_votes yX10_votes ∈ WS := ws_i (mT3 (List.mem_of_getElem? (i := 186) (by decide +kernel))) (by decide +kernel)
theorem co_X10_votes : Cond.code yX10_votes cX10_votes 3 (some .int) ∈ WS := ws_i (mT3 (List.mem_of_getElem? (i := 187) (by decide +kernel))) (by decide +kernel)
theorem yo_X10_votes : yX10_votes.cls ≠ "java/lang/invoke/MethodHandle" ∧ yX10_votes.cls ≠ "java/lang/invoke/VarHandle" ∧ (parseMethodDescriptor yX10_votes.desc).map (fun d => d.parameters.length) = some 2 := by decide +kernel
theorem im_X10_way : Cond.instanceMethod yX10_way ∈ WS := ws_i (mT3 (List.mem_of_getElem? (i := 167) (by decide +kernel))) (by decide +kernel)
theorem se_X10_way : Cond.selects RX10 yX10_way yX10_way ∈ WS := ws_i (mT3 (List.mem_of_getElem? (i := 168) (by decide +kernel))) (by decide +kernel)
theorem co_X10_way : Cond.code yX10_way cX10_way 4 (some .int) ∈ WS := ws_i (mT3 (List.mem_of_getElem? (i := 169) (by decide +kernel))) (by decide +kernel)
theorem yo_X10_way : yX10_way.cls ≠ "java/lang/invoke/MethodHandle" ∧ yX10_way.cls ≠ "java/lang/invoke/VarHandle" ∧ (parseMethodDescriptor yX10_way.desc).map (fun d => d.parameters.length) = some 3 := by decide +kernel
theorem im_X10_winSet : Cond.instanceMethod yX10_winSet ∈ WS := ws_i (mT4 (List.mem_of_getElem? (i := 129) (by decide +kernel))) (by decide +kernel)
theorem se_X10_winSet : Cond.selects RX10 yX10_winSet yX10_winSet ∈ WS := ws_i (mT4 (List.mem_of_getElem? (i := 130) (by decide +kernel))) (by decide +kernel)
theorem co_X10_winSet : Cond.code yX10_winSet cX10_winSet 5 (some .int) ∈ WS := ws_i (mT4 (List.mem_of_getElem? (i := 131) (by decide +kernel))) (by decide +kernel)
theorem yo_X10_winSet : yX10_winSet.cls ≠ "java/lang/invoke/MethodHandle" ∧ yX10_winSet.cls ≠ "java/lang/invoke/VarHandle" ∧ (parseMethodDescriptor yX10_winSet.desc).map (fun d => d.parameters.length) = some 3 := by decide +kernel
theorem im_X10_wins : Cond.instanceMethod yX10_wins ∈ WS := ws_i (mT3 (List.mem_of_getElem? (i := 228) (by decide +kernel))) (by decide +kernel)
theorem se_X10_wins : Cond.selects RX10 yX10_wins yX10_wins ∈ WS := ws_i (mT3 (List.mem_of_getElem? (i := 229) (by decide +kernel))) (by decide +kernel)
theorem co_X10_wins : Cond.code yX10_wins cX10_wins 5 (some .boolean) ∈ WS := ws_i (mT3 (List.mem_of_getElem? (i := 230) (by decide +kernel))) (by decide +kernel)
theorem yo_X10_wins : yX10_wins.cls ≠ "java/lang/invoke/MethodHandle" ∧ yX10_wins.cls ≠ "java/lang/invoke/VarHandle" ∧ (parseMethodDescriptor yX10_wins.desc).map (fun d => d.parameters.length) = some 2 := by decide +kernel
theorem im_X11_addsLine : Cond.instanceMethod yX11_addsLine ∈ WS := ws_i (mT7 (List.mem_of_getElem? (i := 93) (by decide +kernel))) (by decide +kernel)
theorem se_X11_addsLine : Cond.selects RX11 yX11_addsLine yX11_addsLine ∈ WS := ws_i (mS6 (q := (yX11_addsLine, 49)) (List.mem_of_getElem? (i := 7) (by decide +kernel))) (by decide +kernel)
theorem co_X11_addsLine : Cond.code yX11_addsLine cX11_addsLine 5 none ∈ WS := ws_i (mT7 (List.mem_of_getElem? (i := 94) (by decide +kernel))) (by decide +kernel)
theorem yo_X11_addsLine : yX11_addsLine.cls ≠ "java/lang/invoke/MethodHandle" ∧ yX11_addsLine.cls ≠ "java/lang/invoke/VarHandle" ∧ (parseMethodDescriptor yX11_addsLine.desc).map (fun d => d.parameters.length) = some 3 := by decide +kernel
theorem im_X11_addsMiddle : Cond.instanceMethod yX11_addsMiddle ∈ WS := ws_i (mT7 (List.mem_of_getElem? (i := 105) (by decide +kernel))) (by decide +kernel)
theorem se_X11_addsMiddle : Cond.selects RX11 yX11_addsMiddle yX11_addsMiddle ∈ WS := ws_i (mS6 (q := (yX11_addsMiddle, 49)) (List.mem_of_getElem? (i := 10) (by decide +kernel))) (by decide +kernel)
theorem co_X11_addsMiddle : Cond.code yX11_addsMiddle cX11_addsMiddle 16 none ∈ WS := ws_i (mT7 (List.mem_of_getElem? (i := 106) (by decide +kernel))) (by decide +kernel)
theorem yo_X11_addsMiddle : yX11_addsMiddle.cls ≠ "java/lang/invoke/MethodHandle" ∧ yX11_addsMiddle.cls ≠ "java/lang/invoke/VarHandle" ∧ (parseMethodDescriptor yX11_addsMiddle.desc).map (fun d => d.parameters.length) = some 3 := by decide +kernel
theorem im_X11_asks : Cond.instanceMethod yX11_asks ∈ WS := ws_i (mT8 (List.mem_of_getElem? (i := 13) (by decide +kernel))) (by decide +kernel)
theorem se_X11_asks : Cond.selects RX11 yX11_asks yX11_asks ∈ WS := ws_i (mS7 (q := (yX11_asks, 49)) (List.mem_of_getElem? (i := 13) (by decide +kernel))) (by decide +kernel)
theorem co_X11_asks : Cond.code yX11_asks cX11_asks 6 none ∈ WS := ws_i (mT8 (List.mem_of_getElem? (i := 14) (by decide +kernel))) (by decide +kernel)
theorem yo_X11_asks : yX11_asks.cls ≠ "java/lang/invoke/MethodHandle" ∧ yX11_asks.cls ≠ "java/lang/invoke/VarHandle" ∧ (parseMethodDescriptor yX11_asks.desc).map (fun d => d.parameters.length) = some 3 := by decide +kernel
theorem im_X11_beats : Cond.instanceMethod yX11_beats ∈ WS := ws_i (mT7 (List.mem_of_getElem? (i := 48) (by decide +kernel))) (by decide +kernel)
theorem se_X11_beats : Cond.selects RX11 yX11_beats yX11_beats ∈ WS := ws_i (mT7 (List.mem_of_getElem? (i := 49) (by decide +kernel))) (by decide +kernel)
theorem co_X11_beats : Cond.code yX11_beats cX11_beats 3 (some .boolean) ∈ WS := ws_i (mT7 (List.mem_of_getElem? (i := 50) (by decide +kernel))) (by decide +kernel)
theorem yo_X11_beats : yX11_beats.cls ≠ "java/lang/invoke/MethodHandle" ∧ yX11_beats.cls ≠ "java/lang/invoke/VarHandle" ∧ (parseMethodDescriptor yX11_beats.desc).map (fun d => d.parameters.length) = some 2 := by decide +kernel
theorem im_X11_beatsAt : Cond.instanceMethod yX11_beatsAt ∈ WS := ws_i (mT7 (List.mem_of_getElem? (i := 57) (by decide +kernel))) (by decide +kernel)
theorem se_X11_beatsAt : Cond.selects RX11 yX11_beatsAt yX11_beatsAt ∈ WS := ws_i (mS6 (q := (yX11_beatsAt, 49)) (List.mem_of_getElem? (i := 1) (by decide +kernel))) (by decide +kernel)
theorem co_X11_beatsAt : Cond.code yX11_beatsAt cX11_beatsAt 5 (some .boolean) ∈ WS := ws_i (mT7 (List.mem_of_getElem? (i := 58) (by decide +kernel))) (by decide +kernel)
theorem yo_X11_beatsAt : yX11_beatsAt.cls ≠ "java/lang/invoke/MethodHandle" ∧ yX11_beatsAt.cls ≠ "java/lang/invoke/VarHandle" ∧ (parseMethodDescriptor yX11_beatsAt.desc).map (fun d => d.parameters.length) = some 4 := by decide +kernel
theorem im_X11_beatsOf : Cond.instanceMethod yX11_beatsOf ∈ WS := ws_i (mT7 (List.mem_of_getElem? (i := 53) (by decide +kernel))) (by decide +kernel)
theorem se_X11_beatsOf : Cond.selects RX11 yX11_beatsOf yX11_beatsOf ∈ WS := ws_i (mS6 (q := (yX11_beatsOf, 49)) (List.mem_of_getElem? (i := 0) (by decide +kernel))) (by decide +kernel)
theorem co_X11_beatsOf : Cond.code yX11_beatsOf cX11_beatsOf 3 (some .boolean) ∈ WS := ws_i (mT7 (List.mem_of_getElem? (i := 54) (by decide +kernel))) (by decide +kernel)
theorem yo_X11_beatsOf : yX11_beatsOf.cls ≠ "java/lang/invoke/MethodHandle" ∧ yX11_beatsOf.cls ≠ "java/lang/invoke/VarHandle" ∧ (parseMethodDescriptor yX11_beatsOf.desc).map (fun d => d.parameters.length) = some 2 := by decide +kernel
theorem im_X11_best : Cond.instanceMethod yX11_best ∈ WS := ws_i (mT7 (List.mem_of_getElem? (i := 163) (by decide +kernel))) (by decide +kernel)
theorem se_X11_best : Cond.selects RX11 yX11_best yX11_best ∈ WS := ws_i (mT7 (List.mem_of_getElem? (i := 164) (by decide +kernel))) (by decide +kernel)
theorem co_X11_best : Cond.code yX11_best cX11_best 4 (some .int) ∈ WS := ws_i (mT7 (List.mem_of_getElem? (i := 165) (by decide +kernel))) (by decide +kernel)
theorem yo_X11_best : yX11_best.cls ≠ "java/lang/invoke/MethodHandle" ∧ yX11_best.cls ≠ "java/lang/invoke/VarHandle" ∧ (parseMethodDescriptor yX11_best.desc).map (fun d => d.parameters.length) = some 1 := by decide +kernel
theorem im_X11_between : Cond.instanceMethod yX11_between ∈ WS := ws_i (mT7 (List.mem_of_getElem? (i := 179) (by decide +kernel))) (by decide +kernel)
theorem se_X11_between : Cond.selects RX11 yX11_between yX11_between ∈ WS := ws_i (mT7 (List.mem_of_getElem? (i := 180) (by decide +kernel))) (by decide +kernel)
theorem co_X11_between : Cond.code yX11_between cX11_between 6 (some .int) ∈ WS := ws_i (mT7 (List.mem_of_getElem? (i := 181) (by decide +kernel))) (by decide +kernel)
theorem yo_X11_between : yX11_between.cls ≠ "java/lang/invoke/MethodHandle" ∧ yX11_between.cls ≠ "java/lang/invoke/VarHandle" ∧ (parseMethodDescriptor yX11_between.desc).map (fun d => d.parameters.length) = some 2 := by decide +kernel
theorem im_X11_chosen : Cond.instanceMethod yX11_chosen ∈ WS := ws_i (mT7 (List.mem_of_getElem? (i := 188) (by decide +kernel))) (by decide +kernel)
theorem se_X11_chosen : Cond.selects RX11 yX11_chosen yX11_chosen ∈ WS := ws_i (mS7 (q := (yX11_chosen, 49)) (List.mem_of_getElem? (i := 5) (by decide +kernel))) (by decide +kernel)
theorem co_X11_chosen : Cond.code yX11_chosen cX11_chosen 1 (some .int) ∈ WS := ws_i (mT7 (List.mem_of_getElem? (i := 189) (by decide +kernel))) (by decide +kernel)
theorem yo_X11_chosen : yX11_chosen.cls ≠ "java/lang/invoke/MethodHandle" ∧ yX11_chosen.cls ≠ "java/lang/invoke/VarHandle" ∧ (parseMethodDescriptor yX11_chosen.desc).map (fun d => d.parameters.length) = some 0 := by decide +kernel
theorem im_X11_count : Cond.instanceMethod yX11_count ∈ WS := ws_i (mT8 (List.mem_of_getElem? (i := 37) (by decide +kernel))) (by decide +kernel)
theorem se_X11_count : Cond.selects RX11 yX11_count yX11_count ∈ WS := ws_i (mT8 (List.mem_of_getElem? (i := 38) (by decide +kernel))) (by decide +kernel)
theorem co_X11_count : Cond.code yX11_count cX11_count 2 (some .int) ∈ WS := ws_i (mT8 (List.mem_of_getElem? (i := 39) (by decide +kernel))) (by decide +kernel)
theorem yo_X11_count : yX11_count.cls ≠ "java/lang/invoke/MethodHandle" ∧ yX11_count.cls ≠ "java/lang/invoke/VarHandle" ∧ (parseMethodDescriptor yX11_count.desc).map (fun d => d.parameters.length) = some 1 := by decide +kernel
theorem im_X11_coupled : Cond.instanceMethod yX11_coupled ∈ WS := ws_i (mT7 (List.mem_of_getElem? (i := 210) (by decide +kernel))) (by decide +kernel)
theorem se_X11_coupled : Cond.selects RX11 yX11_coupled yX11_coupled ∈ WS := ws_i (mS7 (q := (yX11_coupled, 49)) (List.mem_of_getElem? (i := 9) (by decide +kernel))) (by decide +kernel)
theorem co_X11_coupled : Cond.code yX11_coupled cX11_coupled 8 (some .long) ∈ WS := ws_i (mT7 (List.mem_of_getElem? (i := 211) (by decide +kernel))) (by decide +kernel)
theorem yo_X11_coupled : yX11_coupled.cls ≠ "java/lang/invoke/MethodHandle" ∧ yX11_coupled.cls ≠ "java/lang/invoke/VarHandle" ∧ (parseMethodDescriptor yX11_coupled.desc).map (fun d => d.parameters.length) = some 1 := by decide +kernel
theorem im_X11_covers : Cond.instanceMethod yX11_covers ∈ WS := ws_i (mT7 (List.mem_of_getElem? (i := 176) (by decide +kernel))) (by decide +kernel)
theorem se_X11_covers : Cond.selects RX11 yX11_covers yX11_covers ∈ WS := ws_i (mS7 (q := (yX11_covers, 49)) (List.mem_of_getElem? (i := 4) (by decide +kernel))) (by decide +kernel)
theorem co_X11_covers : Cond.code yX11_covers cX11_covers 4 (some .boolean) ∈ WS := ws_i (mT7 (List.mem_of_getElem? (i := 177) (by decide +kernel))) (by decide +kernel)
theorem yo_X11_covers : yX11_covers.cls ≠ "java/lang/invoke/MethodHandle" ∧ yX11_covers.cls ≠ "java/lang/invoke/VarHandle" ∧ (parseMethodDescriptor yX11_covers.desc).map (fun d => d.parameters.length) = some 2 := by decide +kernel
theorem im_X11_doubt : Cond.instanceMethod yX11_doubt ∈ WS := ws_i (mT8 (List.mem_of_getElem? (i := 7) (by decide +kernel))) (by decide +kernel)
theorem se_X11_doubt : Cond.selects RX11 yX11_doubt yX11_doubt ∈ WS := ws_i (mT8 (List.mem_of_getElem? (i := 8) (by decide +kernel))) (by decide +kernel)
theorem co_X11_doubt : Cond.code yX11_doubt cX11_doubt 5 (some .int) ∈ WS := ws_i (mT8 (List.mem_of_getElem? (i := 9) (by decide +kernel))) (by decide +kernel)
theorem yo_X11_doubt : yX11_doubt.cls ≠ "java/lang/invoke/MethodHandle" ∧ yX11_doubt.cls ≠ "java/lang/invoke/VarHandle" ∧ (parseMethodDescriptor yX11_doubt.desc).map (fun d => d.parameters.length) = some 2 := by decide +kernel
theorem im_X11_end : Cond.instanceMethod yX11_end ∈ WS := ws_i (mT6 (List.mem_of_getElem? (i := 149) (by decide +kernel))) (by decide +kernel)
theorem se_X11_end : Cond.selects RX11 yX11_end yX11_end ∈ WS := ws_i (mT6 (List.mem_of_getElem? (i := 150) (by decide +kernel))) (by decide +kernel)
theorem co_X11_end : Cond.code yX11_end cX11_end 2 (some .boolean) ∈ WS := ws_i (mT6 (List.mem_of_getElem? (i := 151) (by decide +kernel))) (by decide +kernel)
theorem yo_X11_end : yX11_end.cls ≠ "java/lang/invoke/MethodHandle" ∧ yX11_end.cls ≠ "java/lang/invoke/VarHandle" ∧ (parseMethodDescriptor yX11_end.desc).map (fun d => d.parameters.length) = some 1 := by decide +kernel
theorem im_X11_far : Cond.instanceMethod yX11_far ∈ WS := ws_i (mT7 (List.mem_of_getElem? (i := 136) (by decide +kernel))) (by decide +kernel)
theorem se_X11_far : Cond.selects RX11 yX11_far yX11_far ∈ WS := ws_i (mS6 (q := (yX11_far, 49)) (List.mem_of_getElem? (i := 14) (by decide +kernel))) (by decide +kernel)
theorem co_X11_far : Cond.code yX11_far cX11_far 8 none ∈ WS := ws_i (mT7 (List.mem_of_getElem? (i := 137) (by decide +kernel))) (by decide +kernel)
theorem yo_X11_far : yX11_far.cls ≠ "java/lang/invoke/MethodHandle" ∧ yX11_far.cls ≠ "java/lang/invoke/VarHandle" ∧ (parseMethodDescriptor yX11_far.desc).map (fun d => d.parameters.length) = some 2 := by decide +kernel
theorem im_X11_fault : Cond.instanceMethod yX11_fault ∈ WS := ws_i (mT6 (List.mem_of_getElem? (i := 156) (by decide +kernel))) (by decide +kernel)
theorem se_X11_fault : Cond.selects RX11 yX11_fault yX11_fault ∈ WS := ws_i (mT6 (List.mem_of_getElem? (i := 157) (by decide +kernel))) (by decide +kernel)
theorem co_X11_fault : Cond.code yX11_fault cX11_fault 1 (some .int) ∈ WS := ws_i (mT6 (List.mem_of_getElem? (i := 158) (by decide +kernel))) (by decide +kernel)
theorem yo_X11_fault : yX11_fault.cls ≠ "java/lang/invoke/MethodHandle" ∧ yX11_fault.cls ≠ "java/lang/invoke/VarHandle" ∧ (parseMethodDescriptor yX11_fault.desc).map (fun d => d.parameters.length) = some 0 := by decide +kernel
theorem im_X11_feed : Cond.instanceMethod yX11_feed ∈ WS := ws_i (mT6 (List.mem_of_getElem? (i := 141) (by decide +kernel))) (by decide +kernel)
theorem se_X11_feed : Cond.selects RX11 yX11_feed yX11_feed ∈ WS := ws_i (mT6 (List.mem_of_getElem? (i := 142) (by decide +kernel))) (by decide +kernel)
theorem co_X11_feed : Cond.code yX11_feed cX11_feed 6 (some .int) ∈ WS := ws_i (mT6 (List.mem_of_getElem? (i := 143) (by decide +kernel))) (by decide +kernel)
theorem yo_X11_feed : yX11_feed.cls ≠ "java/lang/invoke/MethodHandle" ∧ yX11_feed.cls ≠ "java/lang/invoke/VarHandle" ∧ (parseMethodDescriptor yX11_feed.desc).map (fun d => d.parameters.length) = some 5 := by decide +kernel
theorem im_X11_feeds : Cond.instanceMethod yX11_feeds ∈ WS := ws_i (mT6 (List.mem_of_getElem? (i := 146) (by decide +kernel))) (by decide +kernel)
theorem se_X11_feeds : Cond.selects RX11 yX11_feeds yX11_feeds ∈ WS := ws_i (mS4 (q := (yX11_feeds, 49)) (List.mem_of_getElem? (i := 11) (by decide +kernel))) (by decide +kernel)
theorem co_X11_feeds : Cond.code yX11_feeds cX11_feeds 3 none ∈ WS := ws_i (mT6 (List.mem_of_getElem? (i := 147) (by decide +kernel))) (by decide +kernel)
theorem yo_X11_feeds : yX11_feeds.cls ≠ "java/lang/invoke/MethodHandle" ∧ yX11_feeds.cls ≠ "java/lang/invoke/VarHandle" ∧ (parseMethodDescriptor yX11_feeds.desc).map (fun d => d.parameters.length) = some 1 := by decide +kernel
theorem im_X11_finds : Cond.instanceMethod yX11_finds ∈ WS := ws_i (mT7 (List.mem_of_getElem? (i := 144) (by decide +kernel))) (by decide +kernel)
theorem se_X11_finds : Cond.selects RX11 yX11_finds yX11_finds ∈ WS := ws_i (mS6 (q := (yX11_finds, 49)) (List.mem_of_getElem? (i := 15) (by decide +kernel))) (by decide +kernel)
theorem co_X11_finds : Cond.code yX11_finds cX11_finds 5 none ∈ WS := ws_i (mT7 (List.mem_of_getElem? (i := 145) (by decide +kernel))) (by decide +kernel)
theorem yo_X11_finds : yX11_finds.cls ≠ "java/lang/invoke/MethodHandle" ∧ yX11_finds.cls ≠ "java/lang/invoke/VarHandle" ∧ (parseMethodDescriptor yX11_finds.desc).map (fun d => d.parameters.length) = some 2 := by decide +kernel
theorem im_X11_findsLots : Cond.instanceMethod yX11_findsLots ∈ WS := ws_i (mT7 (List.mem_of_getElem? (i := 201) (by decide +kernel))) (by decide +kernel)
theorem se_X11_findsLots : Cond.selects RX11 yX11_findsLots yX11_findsLots ∈ WS := ws_i (mS7 (q := (yX11_findsLots, 49)) (List.mem_of_getElem? (i := 7) (by decide +kernel))) (by decide +kernel)
theorem co_X11_findsLots : Cond.code yX11_findsLots cX11_findsLots 3 (some .boolean) ∈ WS := ws_i (mT7 (List.mem_of_getElem? (i := 202) (by decide +kernel))) (by decide +kernel)
theorem yo_X11_findsLots : yX11_findsLots.cls ≠ "java/lang/invoke/MethodHandle" ∧ yX11_findsLots.cls ≠ "java/lang/invoke/VarHandle" ∧ (parseMethodDescriptor yX11_findsLots.desc).map (fun d => d.parameters.length) = some 0 := by decide +kernel
theorem im_X11_findsMiddles : Cond.instanceMethod yX11_findsMiddles ∈ WS := ws_i (mT7 (List.mem_of_getElem? (i := 101) (by decide +kernel))) (by decide +kernel)
theorem se_X11_findsMiddles : Cond.selects RX11 yX11_findsMiddles yX11_findsMiddles ∈ WS := ws_i (mS6 (q := (yX11_findsMiddles, 49)) (List.mem_of_getElem? (i := 9) (by decide +kernel))) (by decide +kernel)
theorem co_X11_findsMiddles : Cond.code yX11_findsMiddles cX11_findsMiddles 5 none ∈ WS := ws_i (mT7 (List.mem_of_getElem? (i := 102) (by decide +kernel))) (by decide +kernel)
theorem yo_X11_findsMiddles : yX11_findsMiddles.cls ≠ "java/lang/invoke/MethodHandle" ∧ yX11_findsMiddles.cls ≠ "java/lang/invoke/VarHandle" ∧ (parseMethodDescriptor yX11_findsMiddles.desc).map (fun d => d.parameters.length) = some 0 := by decide +kernel
theorem im_X11_floods : Cond.instanceMethod yX11_floods ∈ WS := ws_i (mT7 (List.mem_of_getElem? (i := 148) (by decide +kernel))) (by decide +kernel)
theorem se_X11_floods : Cond.selects RX11 yX11_floods yX11_floods ∈ WS := ws_i (mS7 (q := (yX11_floods, 49)) (List.mem_of_getElem? (i := 0) (by decide +kernel))) (by decide +kernel)
theorem co_X11_floods : Cond.code yX11_floods cX11_floods 10 none ∈ WS := ws_i (mT7 (List.mem_of_getElem? (i := 149) (by decide +kernel))) (by decide +kernel)
theorem yo_X11_floods : yX11_floods.cls ≠ "java/lang/invoke/MethodHandle" ∧ yX11_floods.cls ≠ "java/lang/invoke/VarHandle" ∧ (parseMethodDescriptor yX11_floods.desc).map (fun d => d.parameters.length) = some 2 := by decide +kernel
theorem im_X11_forOf : Cond.instanceMethod yX11_forOf ∈ WS := ws_i (mT7 (List.mem_of_getElem? (i := 45) (by decide +kernel))) (by decide +kernel)
theorem se_X11_forOf : Cond.selects RX11 yX11_forOf yX11_forOf ∈ WS := ws_i (mS5 (q := (yX11_forOf, 49)) (List.mem_of_getElem? (i := 15) (by decide +kernel))) (by decide +kernel)
theorem co_X11_forOf : Cond.code yX11_forOf cX11_forOf 7 (some .int) ∈ WS := ws_i (mT7 (List.mem_of_getElem? (i := 46) (by decide +kernel))) (by decide +kernel)
theorem yo_X11_forOf : yX11_forOf.cls ≠ "java/lang/invoke/MethodHandle" ∧ yX11_forOf.cls ≠ "java/lang/invoke/VarHandle" ∧ (parseMethodDescriptor yX11_forOf.desc).map (fun d => d.parameters.length) = some 4 := by decide +kernel
theorem im_X11_gain : Cond.instanceMethod yX11_gain ∈ WS := ws_i (mT7 (List.mem_of_getElem? (i := 192) (by decide +kernel))) (by decide +kernel)
theorem se_X11_gain : Cond.selects RX11 yX11_gain yX11_gain ∈ WS := ws_i (mS7 (q := (yX11_gain, 49)) (List.mem_of_getElem? (i := 6) (by decide +kernel))) (by decide +kernel)
theorem co_X11_gain : Cond.code yX11_gain cX11_gain 3 (some .int) ∈ WS := ws_i (mT7 (List.mem_of_getElem? (i := 193) (by decide +kernel))) (by decide +kernel)
theorem yo_X11_gain : yX11_gain.cls ≠ "java/lang/invoke/MethodHandle" ∧ yX11_gain.cls ≠ "java/lang/invoke/VarHandle" ∧ (parseMethodDescriptor yX11_gain.desc).map (fun d => d.parameters.length) = some 2 := by decide +kernel
theorem st_X11_gcd : Cond.static yX11_gcd ∈ WS := ws_i (mT7 (List.mem_of_getElem? (i := 85) (by decide +kernel))) (by decide +kernel)
theorem co_X11_gcd : Cond.code yX11_gcd cX11_gcd 10 (some .long) ∈ WS := ws_i (mT7 (List.mem_of_getElem? (i := 86) (by decide +kernel))) (by decide +kernel)
theorem yo_X11_gcd : yX11_gcd.cls ≠ "java/lang/invoke/MethodHandle" ∧ yX11_gcd.cls ≠ "java/lang/invoke/VarHandle" ∧ (parseMethodDescriptor yX11_gcd.desc).map (fun d => d.parameters.length) = some 2 := by decide +kernel
theorem im_X11_halves : Cond.instanceMethod yX11_halves ∈ WS := ws_i (mT7 (List.mem_of_getElem? (i := 89) (by decide +kernel))) (by decide +kernel)
theorem se_X11_halves : Cond.selects RX11 yX11_halves yX11_halves ∈ WS := ws_i (mS6 (q := (yX11_halves, 49)) (List.mem_of_getElem? (i := 6) (by decide +kernel))) (by decide +kernel)
theorem co_X11_halves : Cond.code yX11_halves cX11_halves 8 (some .boolean) ∈ WS := ws_i (mT7 (List.mem_of_getElem? (i := 90) (by decide +kernel))) (by decide +kernel)
theorem yo_X11_halves : yX11_halves.cls ≠ "java/lang/invoke/MethodHandle" ∧ yX11_halves.cls ≠ "java/lang/invoke/VarHandle" ∧ (parseMethodDescriptor yX11_halves.desc).map (fun d => d.parameters.length) = some 3 := by decide +kernel
theorem st_X11_in : Cond.static yX11_in ∈ WS := ws_i (mT6 (List.mem_of_getElem? (i := 153) (by decide +kernel))) (by decide +kernel)
theorem co_X11_in : Cond.code yX11_in cX11_in 6 (some .boolean) ∈ WS := ws_i (mT6 (List.mem_of_getElem? (i := 154) (by decide +kernel))) (by decide +kernel)
theorem yo_X11_in : yX11_in.cls ≠ "java/lang/invoke/MethodHandle" ∧ yX11_in.cls ≠ "java/lang/invoke/VarHandle" ∧ (parseMethodDescriptor yX11_in.desc).map (fun d => d.parameters.length) = some 3 := by decide +kernel
theorem im_X11_init : Cond.instanceMethod yX11_init ∈ WS := ws_i (mT5 (List.mem_of_getElem? (i := 219) (by decide +kernel))) (by decide +kernel)
theorem co_X11_init : Cond.code yX11_init cX11_init 1 none ∈ WS := ws_i (mT5 (List.mem_of_getElem? (i := 220) (by decide +kernel))) (by decide +kernel)
theorem yo_X11_init : yX11_init.cls ≠ "java/lang/invoke/MethodHandle" ∧ yX11_init.cls ≠ "java/lang/invoke/VarHandle" ∧ (parseMethodDescriptor yX11_init.desc).map (fun d => d.parameters.length) = some 0 := by decide +kernel
theorem im_X11_isAhead : Cond.instanceMethod yX11_isAhead ∈ WS := ws_i (mT7 (List.mem_of_getElem? (i := 97) (by decide +kernel))) (by decide +kernel)
theorem se_X11_isAhead : Cond.selects RX11 yX11_isAhead yX11_isAhead ∈ WS := ws_i (mS6 (q := (yX11_isAhead, 49)) (List.mem_of_getElem? (i := 8) (by decide +kernel))) (by decide +kernel)
theorem co_X11_isAhead : Cond.code yX11_isAhead cX11_isAhead 6 (some .boolean) ∈ WS := ws_i (mT7 (List.mem_of_getElem? (i := 98) (by decide +kernel))) (by decide +kernel)
theorem yo_X11_isAhead : yX11_isAhead.cls ≠ "java/lang/invoke/MethodHandle" ∧ yX11_isAhead.cls ≠ "java/lang/invoke/VarHandle" ∧ (parseMethodDescriptor yX11_isAhead.desc).map (fun d => d.parameters.length) = some 4 := by decide +kernel
theorem im_X11_isBehind : Cond.instanceMethod yX11_isBehind ∈ WS := ws_i (mT7 (List.mem_of_getElem? (i := 113) (by decide +kernel))) (by decide +kernel)
theorem se_X11_isBehind : Cond.selects RX11 yX11_isBehind yX11_isBehind ∈ WS := ws_i (mS6 (q := (yX11_isBehind, 49)) (List.mem_of_getElem? (i := 12) (by decide +kernel))) (by decide +kernel)
theorem co_X11_isBehind : Cond.code yX11_isBehind cX11_isBehind 10 (some .boolean) ∈ WS := ws_i (mT7 (List.mem_of_getElem? (i := 114) (by decide +kernel))) (by decide +kernel)
theorem yo_X11_isBehind : yX11_isBehind.cls ≠ "java/lang/invoke/MethodHandle" ∧ yX11_isBehind.cls ≠ "java/lang/invoke/VarHandle" ∧ (parseMethodDescriptor yX11_isBehind.desc).map (fun d => d.parameters.length) = some 4 := by decide +kernel
theorem st_X11_isDigit : Cond.static yX11_isDigit ∈ WS := ws_i (mT6 (List.mem_of_getElem? (i := 171) (by decide +kernel))) (by decide +kernel)
theorem co_X11_isDigit : Cond.code yX11_isDigit cX11_isDigit 1 (some .boolean) ∈ WS := ws_i (mT6 (List.mem_of_getElem? (i := 172) (by decide +kernel))) (by decide +kernel)
theorem yo_X11_isDigit : yX11_isDigit.cls ≠ "java/lang/invoke/MethodHandle" ∧ yX11_isDigit.cls ≠ "java/lang/invoke/VarHandle" ∧ (parseMethodDescriptor yX11_isDigit.desc).map (fun d => d.parameters.length) = some 1 := by decide +kernel
theorem st_X11_isLetter : Cond.static yX11_isLetter ∈ WS := ws_i (mT6 (List.mem_of_getElem? (i := 168) (by decide +kernel))) (by decide +kernel)
theorem co_X11_isLetter : Cond.code yX11_isLetter cX11_isLetter 1 (some .boolean) ∈ WS := ws_i (mT6 (List.mem_of_getElem? (i := 169) (by decide +kernel))) (by decide +kernel)
theorem yo_X11_isLetter : yX11_isLetter.cls ≠ "java/lang/invoke/MethodHandle" ∧ yX11_isLetter.cls ≠ "java/lang/invoke/VarHandle" ∧ (parseMethodDescriptor yX11_isLetter.desc).map (fun d => d.parameters.length) = some 1 := by decide +kernel
theorem im_X11_isLot : Cond.instanceMethod yX11_isLot ∈ WS := ws_i (mT7 (List.mem_of_getElem? (i := 206) (by decide +kernel))) (by decide +kernel)
theorem se_X11_isLot : Cond.selects RX11 yX11_isLot yX11_isLot ∈ WS := ws_i (mS7 (q := (yX11_isLot, 49)) (List.mem_of_getElem? (i := 8) (by decide +kernel))) (by decide +kernel)
theorem co_X11_isLot : Cond.code yX11_isLot cX11_isLot 12 (some .boolean) ∈ WS := ws_i (mT7 (List.mem_of_getElem? (i := 207) (by decide +kernel))) (by decide +kernel)
theorem yo_X11_isLot : yX11_isLot.cls ≠ "java/lang/invoke/MethodHandle" ∧ yX11_isLot.cls ≠ "java/lang/invoke/VarHandle" ∧ (parseMethodDescriptor yX11_isLot.desc).map (fun d => d.parameters.length) = some 1 := by decide +kernel
theorem im_X11_isMiddle : Cond.instanceMethod yX11_isMiddle ∈ WS := ws_i (mT7 (List.mem_of_getElem? (i := 109) (by decide +kernel))) (by decide +kernel)
theorem se_X11_isMiddle : Cond.selects RX11 yX11_isMiddle yX11_isMiddle ∈ WS := ws_i (mS6 (q := (yX11_isMiddle, 49)) (List.mem_of_getElem? (i := 11) (by decide +kernel))) (by decide +kernel)
theorem co_X11_isMiddle : Cond.code yX11_isMiddle cX11_isMiddle 27 (some .boolean) ∈ WS := ws_i (mT7 (List.mem_of_getElem? (i := 110) (by decide +kernel))) (by decide +kernel)
theorem yo_X11_isMiddle : yX11_isMiddle.cls ≠ "java/lang/invoke/MethodHandle" ∧ yX11_isMiddle.cls ≠ "java/lang/invoke/VarHandle" ∧ (parseMethodDescriptor yX11_isMiddle.desc).map (fun d => d.parameters.length) = some 3 := by decide +kernel
theorem im_X11_isOpen : Cond.instanceMethod yX11_isOpen ∈ WS := ws_i (mT7 (List.mem_of_getElem? (i := 172) (by decide +kernel))) (by decide +kernel)
theorem se_X11_isOpen : Cond.selects RX11 yX11_isOpen yX11_isOpen ∈ WS := ws_i (mS7 (q := (yX11_isOpen, 49)) (List.mem_of_getElem? (i := 3) (by decide +kernel))) (by decide +kernel)
theorem co_X11_isOpen : Cond.code yX11_isOpen cX11_isOpen 3 (some .boolean) ∈ WS := ws_i (mT7 (List.mem_of_getElem? (i := 173) (by decide +kernel))) (by decide +kernel)
theorem yo_X11_isOpen : yX11_isOpen.cls ≠ "java/lang/invoke/MethodHandle" ∧ yX11_isOpen.cls ≠ "java/lang/invoke/VarHandle" ∧ (parseMethodDescriptor yX11_isOpen.desc).map (fun d => d.parameters.length) = some 1 := by decide +kernel
theorem im_X11_isPlace : Cond.instanceMethod yX11_isPlace ∈ WS := ws_i (mT7 (List.mem_of_getElem? (i := 8) (by decide +kernel))) (by decide +kernel)
theorem se_X11_isPlace : Cond.selects RX11 yX11_isPlace yX11_isPlace ∈ WS := ws_i (mS5 (q := (yX11_isPlace, 49)) (List.mem_of_getElem? (i := 10) (by decide +kernel))) (by decide +kernel)
theorem co_X11_isPlace : Cond.code yX11_isPlace cX11_isPlace 2 (some .boolean) ∈ WS := ws_i (mT7 (List.mem_of_getElem? (i := 9) (by decide +kernel))) (by decide +kernel)
theorem yo_X11_isPlace : yX11_isPlace.cls ≠ "java/lang/invoke/MethodHandle" ∧ yX11_isPlace.cls ≠ "java/lang/invoke/VarHandle" ∧ (parseMethodDescriptor yX11_isPlace.desc).map (fun d => d.parameters.length) = some 1 := by decide +kernel
theorem st_X11_isPoint : Cond.static yX11_isPoint ∈ WS := ws_i (mT7 (List.mem_of_getElem? (i := 19) (by decide +kernel))) (by decide +kernel)
theorem co_X11_isPoint : Cond.code yX11_isPoint cX11_isPoint 2 (some .boolean) ∈ WS := ws_i (mT7 (List.mem_of_getElem? (i := 20) (by decide +kernel))) (by decide +kernel)
theorem yo_X11_isPoint : yX11_isPoint.cls ≠ "java/lang/invoke/MethodHandle" ∧ yX11_isPoint.cls ≠ "java/lang/invoke/VarHandle" ∧ (parseMethodDescriptor yX11_isPoint.desc).map (fun d => d.parameters.length) = some 2 := by decide +kernel
theorem im_X11_isReached : Cond.instanceMethod yX11_isReached ∈ WS := ws_i (mT7 (List.mem_of_getElem? (i := 168) (by decide +kernel))) (by decide +kernel)
theorem se_X11_isReached : Cond.selects RX11 yX11_isReached yX11_isReached ∈ WS := ws_i (mS7 (q := (yX11_isReached, 49)) (List.mem_of_getElem? (i := 2) (by decide +kernel))) (by decide +kernel)
theorem co_X11_isReached : Cond.code yX11_isReached cX11_isReached 3 (some .boolean) ∈ WS := ws_i (mT7 (List.mem_of_getElem? (i := 169) (by decide +kernel))) (by decide +kernel)
theorem yo_X11_isReached : yX11_isReached.cls ≠ "java/lang/invoke/MethodHandle" ∧ yX11_isReached.cls ≠ "java/lang/invoke/VarHandle" ∧ (parseMethodDescriptor yX11_isReached.desc).map (fun d => d.parameters.length) = some 1 := by decide +kernel
theorem im_X11_isSign : Cond.instanceMethod yX11_isSign ∈ WS := ws_i (mT6 (List.mem_of_getElem? (i := 194) (by decide +kernel))) (by decide +kernel)
theorem se_X11_isSign : Cond.selects RX11 yX11_isSign yX11_isSign ∈ WS := ws_i (mS5 (q := (yX11_isSign, 49)) (List.mem_of_getElem? (i := 2) (by decide +kernel))) (by decide +kernel)
theorem co_X11_isSign : Cond.code yX11_isSign cX11_isSign 2 (some .boolean) ∈ WS := ws_i (mT6 (List.mem_of_getElem? (i := 195) (by decide +kernel))) (by decide +kernel)
theorem yo_X11_isSign : yX11_isSign.cls ≠ "java/lang/invoke/MethodHandle" ∧ yX11_isSign.cls ≠ "java/lang/invoke/VarHandle" ∧ (parseMethodDescriptor yX11_isSign.desc).map (fun d => d.parameters.length) = some 1 := by decide +kernel
theorem im_X11_isUnbeaten : Cond.instanceMethod yX11_isUnbeaten ∈ WS := ws_i (mT7 (List.mem_of_getElem? (i := 231) (by decide +kernel))) (by decide +kernel)
theorem se_X11_isUnbeaten : Cond.selects RX11 yX11_isUnbeaten yX11_isUnbeaten ∈ WS := ws_i (mS7 (q := (yX11_isUnbeaten, 49)) (List.mem_of_getElem? (i := 11) (by decide +kernel))) (by decide +kernel)
theorem co_X11_isUnbeaten : Cond.code yX11_isUnbeaten cX11_isUnbeaten 3 (some .boolean) ∈ WS := ws_i (mT7 (List.mem_of_getElem? (i := 232) (by decide +kernel))) (by decide +kernel)
theorem yo_X11_isUnbeaten : yX11_isUnbeaten.cls ≠ "java/lang/invoke/MethodHandle" ∧ yX11_isUnbeaten.cls ≠ "java/lang/invoke/VarHandle" ∧ (parseMethodDescriptor yX11_isUnbeaten.desc).map (fun d => d.parameters.length) = some 1 := by decide +kernel
theorem im_X11_isVoter : Cond.instanceMethod yX11_isVoter ∈ WS := ws_i (mT7 (List.mem_of_getElem? (i := 0) (by decide +kernel))) (by decide +kernel)
theorem se_X11_isVoter : Cond.selects RX11 yX11_isVoter yX11_isVoter ∈ WS := ws_i (mS5 (q := (yX11_isVoter, 49)) (List.mem_of_getElem? (i := 9) (by decide +kernel))) (by decide +kernel)
theorem co_X11_isVoter : Cond.code yX11_isVoter cX11_isVoter 2 (some .boolean) ∈ WS := ws_i (mT7 (List.mem_of_getElem? (i := 1) (by decide +kernel))) (by decide +kernel)
theorem yo_X11_isVoter : yX11_isVoter.cls ≠ "java/lang/invoke/MethodHandle" ∧ yX11_isVoter.cls ≠ "java/lang/invoke/VarHandle" ∧ (parseMethodDescriptor yX11_isVoter.desc).map (fun d => d.parameters.length) = some 1 := by decide +kernel
theorem im_X11_isWon : Cond.instanceMethod yX11_isWon ∈ WS := ws_i (mT7 (List.mem_of_getElem? (i := 61) (by decide +kernel))) (by decide +kernel)
theorem se_X11_isWon : Cond.selects RX11 yX11_isWon yX11_isWon ∈ WS := ws_i (mS6 (q := (yX11_isWon, 49)) (List.mem_of_getElem? (i := 2) (by decide +kernel))) (by decide +kernel)
theorem co_X11_isWon : Cond.code yX11_isWon cX11_isWon 4 (some .boolean) ∈ WS := ws_i (mT7 (List.mem_of_getElem? (i := 62) (by decide +kernel))) (by decide +kernel)
theorem yo_X11_isWon : yX11_isWon.cls ≠ "java/lang/invoke/MethodHandle" ∧ yX11_isWon.cls ≠ "java/lang/invoke/VarHandle" ∧ (parseMethodDescriptor yX11_isWon.desc).map (fun d => d.parameters.length) = some 2 := by decide +kernel
theorem im_X11_isWord : Cond.instanceMethod yX11_isWord ∈ WS := ws_i (mT6 (List.mem_of_getElem? (i := 180) (by decide +kernel))) (by decide +kernel)
theorem se_X11_isWord : Cond.selects RX11 yX11_isWord yX11_isWord ∈ WS := ws_i (mS4 (q := (yX11_isWord, 49)) (List.mem_of_getElem? (i := 15) (by decide +kernel))) (by decide +kernel)
theorem co_X11_isWord : Cond.code yX11_isWord cX11_isWord 3 (some .boolean) ∈ WS := ws_i (mT6 (List.mem_of_getElem? (i := 181) (by decide +kernel))) (by decide +kernel)
theorem yo_X11_isWord : yX11_isWord.cls ≠ "java/lang/invoke/MethodHandle" ∧ yX11_isWord.cls ≠ "java/lang/invoke/VarHandle" ∧ (parseMethodDescriptor yX11_isWord.desc).map (fun d => d.parameters.length) = some 1 := by decide +kernel
theorem im_X11_join : Cond.instanceMethod yX11_join ∈ WS := ws_i (mT7 (List.mem_of_getElem? (i := 239) (by decide +kernel))) (by decide +kernel)
theorem se_X11_join : Cond.selects RX11 yX11_join yX11_join ∈ WS := ws_i (mT8 (List.mem_of_getElem? (i := 0) (by decide +kernel))) (by decide +kernel)
theorem co_X11_join : Cond.code yX11_join cX11_join 5 (some .int) ∈ WS := ws_i (mT8 (List.mem_of_getElem? (i := 1) (by decide +kernel))) (by decide +kernel)
theorem yo_X11_join : yX11_join.cls ≠ "java/lang/invoke/MethodHandle" ∧ yX11_join.cls ≠ "java/lang/invoke/VarHandle" ∧ (parseMethodDescriptor yX11_join.desc).map (fun d => d.parameters.length) = some 1 := by decide +kernel
theorem im_X11_joins : Cond.instanceMethod yX11_joins ∈ WS := ws_i (mT8 (List.mem_of_getElem? (i := 4) (by decide +kernel))) (by decide +kernel)
theorem se_X11_joins : Cond.selects RX11 yX11_joins yX11_joins ∈ WS := ws_i (mS7 (q := (yX11_joins, 49)) (List.mem_of_getElem? (i := 12) (by decide +kernel))) (by decide +kernel)
theorem co_X11_joins : Cond.code yX11_joins cX11_joins 5 (some .boolean) ∈ WS := ws_i (mT8 (List.mem_of_getElem? (i := 5) (by decide +kernel))) (by decide +kernel)
theorem yo_X11_joins : yX11_joins.cls ≠ "java/lang/invoke/MethodHandle" ∧ yX11_joins.cls ≠ "java/lang/invoke/VarHandle" ∧ (parseMethodDescriptor yX11_joins.desc).map (fun d => d.parameters.length) = some 2 := by decide +kernel
theorem im_X11_knows : Cond.instanceMethod yX11_knows ∈ WS := ws_i (mT7 (List.mem_of_getElem? (i := 78) (by decide +kernel))) (by decide +kernel)
theorem se_X11_knows : Cond.selects RX11 yX11_knows yX11_knows ∈ WS := ws_i (mS6 (q := (yX11_knows, 49)) (List.mem_of_getElem? (i := 4) (by decide +kernel))) (by decide +kernel)
theorem co_X11_knows : Cond.code yX11_knows cX11_knows 3 none ∈ WS := ws_i (mT7 (List.mem_of_getElem? (i := 79) (by decide +kernel))) (by decide +kernel)
theorem yo_X11_knows : yX11_knows.cls ≠ "java/lang/invoke/MethodHandle" ∧ yX11_knows.cls ≠ "java/lang/invoke/VarHandle" ∧ (parseMethodDescriptor yX11_knows.desc).map (fun d => d.parameters.length) = some 0 := by decide +kernel
theorem im_X11_leads : Cond.instanceMethod yX11_leads ∈ WS := ws_i (mT7 (List.mem_of_getElem? (i := 160) (by decide +kernel))) (by decide +kernel)
theorem se_X11_leads : Cond.selects RX11 yX11_leads yX11_leads ∈ WS := ws_i (mS7 (q := (yX11_leads, 49)) (List.mem_of_getElem? (i := 1) (by decide +kernel))) (by decide +kernel)
theorem co_X11_leads : Cond.code yX11_leads cX11_leads 5 none ∈ WS := ws_i (mT7 (List.mem_of_getElem? (i := 161) (by decide +kernel))) (by decide +kernel)
theorem yo_X11_leads : yX11_leads.cls ≠ "java/lang/invoke/MethodHandle" ∧ yX11_leads.cls ≠ "java/lang/invoke/VarHandle" ∧ (parseMethodDescriptor yX11_leads.desc).map (fun d => d.parameters.length) = some 1 := by decide +kernel
theorem im_X11_led : Cond.instanceMethod yX11_led ∈ WS := ws_i (mT7 (List.mem_of_getElem? (i := 155) (by decide +kernel))) (by decide +kernel)
theorem se_X11_led : Cond.selects RX11 yX11_led yX11_led ∈ WS := ws_i (mT7 (List.mem_of_getElem? (i := 156) (by decide +kernel))) (by decide +kernel)
theorem co_X11_led : Cond.code yX11_led cX11_led 7 (some .int) ∈ WS := ws_i (mT7 (List.mem_of_getElem? (i := 157) (by decide +kernel))) (by decide +kernel)
theorem yo_X11_led : yX11_led.cls ≠ "java/lang/invoke/MethodHandle" ∧ yX11_led.cls ≠ "java/lang/invoke/VarHandle" ∧ (parseMethodDescriptor yX11_led.desc).map (fun d => d.parameters.length) = some 3 := by decide +kernel
theorem im_X11_line : Cond.instanceMethod yX11_line ∈ WS := ws_i (mT7 (List.mem_of_getElem? (i := 73) (by decide +kernel))) (by decide +kernel)
theorem se_X11_line : Cond.selects RX11 yX11_line yX11_line ∈ WS := ws_i (mT7 (List.mem_of_getElem? (i := 74) (by decide +kernel))) (by decide +kernel)
theorem co_X11_line : Cond.code yX11_line cX11_line 3 (some .int) ∈ WS := ws_i (mT7 (List.mem_of_getElem? (i := 75) (by decide +kernel))) (by decide +kernel)
theorem yo_X11_line : yX11_line.cls ≠ "java/lang/invoke/MethodHandle" ∧ yX11_line.cls ≠ "java/lang/invoke/VarHandle" ∧ (parseMethodDescriptor yX11_line.desc).map (fun d => d.parameters.length) = some 2 := by decide +kernel
theorem im_X11_lot : Cond.instanceMethod yX11_lot ∈ WS := ws_i (mT7 (List.mem_of_getElem? (i := 195) (by decide +kernel))) (by decide +kernel)
theorem se_X11_lot : Cond.selects RX11 yX11_lot yX11_lot ∈ WS := ws_i (mT7 (List.mem_of_getElem? (i := 196) (by decide +kernel))) (by decide +kernel)
theorem co_X11_lot : Cond.code yX11_lot cX11_lot 5 (some .int) ∈ WS := ws_i (mT7 (List.mem_of_getElem? (i := 197) (by decide +kernel))) (by decide +kernel)
theorem yo_X11_lot : yX11_lot.cls ≠ "java/lang/invoke/MethodHandle" ∧ yX11_lot.cls ≠ "java/lang/invoke/VarHandle" ∧ (parseMethodDescriptor yX11_lot.desc).map (fun d => d.parameters.length) = some 1 := by decide +kernel
theorem im_X11_make : Cond.instanceMethod yX11_make ∈ WS := ws_i (mT7 (List.mem_of_getElem? (i := 234) (by decide +kernel))) (by decide +kernel)
theorem se_X11_make : Cond.selects RX11 yX11_make yX11_make ∈ WS := ws_i (mT7 (List.mem_of_getElem? (i := 235) (by decide +kernel))) (by decide +kernel)
theorem co_X11_make : Cond.code yX11_make cX11_make 12 (some .int) ∈ WS := ws_i (mT7 (List.mem_of_getElem? (i := 236) (by decide +kernel))) (by decide +kernel)
theorem yo_X11_make : yX11_make.cls ≠ "java/lang/invoke/MethodHandle" ∧ yX11_make.cls ≠ "java/lang/invoke/VarHandle" ∧ (parseMethodDescriptor yX11_make.desc).map (fun d => d.parameters.length) = some 1 := by decide +kernel
theorem im_X11_meet : Cond.instanceMethod yX11_meet ∈ WS := ws_i (mT7 (List.mem_of_getElem? (i := 127) (by decide +kernel))) (by decide +kernel)
theorem se_X11_meet : Cond.selects RX11 yX11_meet yX11_meet ∈ WS := ws_i (mS6 (q := (yX11_meet, 49)) (List.mem_of_getElem? (i := 13) (by decide +kernel))) (by decide +kernel)
theorem co_X11_meet : Cond.code yX11_meet cX11_meet 10 (some .boolean) ∈ WS := ws_i (mT7 (List.mem_of_getElem? (i := 128) (by decide +kernel))) (by decide +kernel)
theorem yo_X11_meet : yX11_meet.cls ≠ "java/lang/invoke/MethodHandle" ∧ yX11_meet.cls ≠ "java/lang/invoke/VarHandle" ∧ (parseMethodDescriptor yX11_meet.desc).map (fun d => d.parameters.length) = some 3 := by decide +kernel
theorem im_X11_middle : Cond.instanceMethod yX11_middle ∈ WS := ws_i (mT7 (List.mem_of_getElem? (i := 117) (by decide +kernel))) (by decide +kernel)
theorem se_X11_middle : Cond.selects RX11 yX11_middle yX11_middle ∈ WS := ws_i (mT7 (List.mem_of_getElem? (i := 118) (by decide +kernel))) (by decide +kernel)
theorem co_X11_middle : Cond.code yX11_middle cX11_middle 3 (some .int) ∈ WS := ws_i (mT7 (List.mem_of_getElem? (i := 119) (by decide +kernel))) (by decide +kernel)
theorem yo_X11_middle : yX11_middle.cls ≠ "java/lang/invoke/MethodHandle" ∧ yX11_middle.cls ≠ "java/lang/invoke/VarHandle" ∧ (parseMethodDescriptor yX11_middle.desc).map (fun d => d.parameters.length) = some 2 := by decide +kernel
theorem im_X11_most : Cond.instanceMethod yX11_most ∈ WS := ws_i (mT7 (List.mem_of_getElem? (i := 222) (by decide +kernel))) (by decide +kernel)
theorem se_X11_most : Cond.selects RX11 yX11_most yX11_most ∈ WS := ws_i (mT7 (List.mem_of_getElem? (i := 223) (by decide +kernel))) (by decide +kernel)
theorem co_X11_most : Cond.code yX11_most cX11_most 5 (some .int) ∈ WS := ws_i (mT7 (List.mem_of_getElem? (i := 224) (by decide +kernel))) (by decide +kernel)
theorem yo_X11_most : yX11_most.cls ≠ "java/lang/invoke/MethodHandle" ∧ yX11_most.cls ≠ "java/lang/invoke/VarHandle" ∧ (parseMethodDescriptor yX11_most.desc).map (fun d => d.parameters.length) = some 2 := by decide +kernel
theorem im_X11_move : Cond.instanceMethod yX11_move ∈ WS := ws_i (mT8 (List.mem_of_getElem? (i := 20) (by decide +kernel))) (by decide +kernel)
theorem se_X11_move : Cond.selects RX11 yX11_move yX11_move ∈ WS := ws_i (mT8 (List.mem_of_getElem? (i := 21) (by decide +kernel))) (by decide +kernel)
theorem co_X11_move : Cond.code yX11_move cX11_move 5 (some .int) ∈ WS := ws_i (mT8 (List.mem_of_getElem? (i := 22) (by decide +kernel))) (by decide +kernel)
theorem yo_X11_move : yX11_move.cls ≠ "java/lang/invoke/MethodHandle" ∧ yX11_move.cls ≠ "java/lang/invoke/VarHandle" ∧ (parseMethodDescriptor yX11_move.desc).map (fun d => d.parameters.length) = some 3 := by decide +kernel
theorem im_X11_moved : Cond.instanceMethod yX11_moved ∈ WS := ws_i (mT8 (List.mem_of_getElem? (i := 32) (by decide +kernel))) (by decide +kernel)
theorem se_X11_moved : Cond.selects RX11 yX11_moved yX11_moved ∈ WS := ws_i (mT8 (List.mem_of_getElem? (i := 33) (by decide +kernel))) (by decide +kernel)
theorem co_X11_moved : Cond.code yX11_moved cX11_moved 3 (some .int) ∈ WS := ws_i (mT8 (List.mem_of_getElem? (i := 34) (by decide +kernel))) (by decide +kernel)
theorem yo_X11_moved : yX11_moved.cls ≠ "java/lang/invoke/MethodHandle" ∧ yX11_moved.cls ≠ "java/lang/invoke/VarHandle" ∧ (parseMethodDescriptor yX11_moved.desc).map (fun d => d.parameters.length) = some 2 := by decide +kernel
theorem im_X11_near : Cond.instanceMethod yX11_near ∈ WS := ws_i (mT6 (List.mem_of_getElem? (i := 190) (by decide +kernel))) (by decide +kernel)
theorem se_X11_near : Cond.selects RX11 yX11_near yX11_near ∈ WS := ws_i (mS5 (q := (yX11_near, 49)) (List.mem_of_getElem? (i := 1) (by decide +kernel))) (by decide +kernel)
theorem co_X11_near : Cond.code yX11_near cX11_near 3 (some .boolean) ∈ WS := ws_i (mT6 (List.mem_of_getElem? (i := 191) (by decide +kernel))) (by decide +kernel)
theorem yo_X11_near : yX11_near.cls ≠ "java/lang/invoke/MethodHandle" ∧ yX11_near.cls ≠ "java/lang/invoke/VarHandle" ∧ (parseMethodDescriptor yX11_near.desc).map (fun d => d.parameters.length) = some 0 := by decide +kernel
theorem im_X11_need : Cond.instanceMethod yX11_need ∈ WS := ws_i (mT7 (List.mem_of_getElem? (i := 214) (by decide +kernel))) (by decide +kernel)
theorem se_X11_need : Cond.selects RX11 yX11_need yX11_need ∈ WS := ws_i (mT7 (List.mem_of_getElem? (i := 215) (by decide +kernel))) (by decide +kernel)
theorem co_X11_need : Cond.code yX11_need cX11_need 4 (some .int) ∈ WS := ws_i (mT7 (List.mem_of_getElem? (i := 216) (by decide +kernel))) (by decide +kernel)
theorem yo_X11_need : yX11_need.cls ≠ "java/lang/invoke/MethodHandle" ∧ yX11_need.cls ≠ "java/lang/invoke/VarHandle" ∧ (parseMethodDescriptor yX11_need.desc).map (fun d => d.parameters.length) = some 1 := by decide +kernel
theorem im_X11_needOf : Cond.instanceMethod yX11_needOf ∈ WS := ws_i (mT7 (List.mem_of_getElem? (i := 219) (by decide +kernel))) (by decide +kernel)
theorem se_X11_needOf : Cond.selects RX11 yX11_needOf yX11_needOf ∈ WS := ws_i (mS7 (q := (yX11_needOf, 49)) (List.mem_of_getElem? (i := 10) (by decide +kernel))) (by decide +kernel)
theorem co_X11_needOf : Cond.code yX11_needOf cX11_needOf 4 (some .int) ∈ WS := ws_i (mT7 (List.mem_of_getElem? (i := 220) (by decide +kernel))) (by decide +kernel)
theorem yo_X11_needOf : yX11_needOf.cls ≠ "java/lang/invoke/MethodHandle" ∧ yX11_needOf.cls ≠ "java/lang/invoke/VarHandle" ∧ (parseMethodDescriptor yX11_needOf.desc).map (fun d => d.parameters.length) = some 1 := by decide +kernel
theorem im_X11_number : Cond.instanceMethod yX11_number ∈ WS := ws_i (mT6 (List.mem_of_getElem? (i := 203) (by decide +kernel))) (by decide +kernel)
theorem se_X11_number : Cond.selects RX11 yX11_number yX11_number ∈ WS := ws_i (mS5 (q := (yX11_number, 49)) (List.mem_of_getElem? (i := 4) (by decide +kernel))) (by decide +kernel)
theorem co_X11_number : Cond.code yX11_number cX11_number 6 (some .boolean) ∈ WS := ws_i (mT6 (List.mem_of_getElem? (i := 204) (by decide +kernel))) (by decide +kernel)
theorem yo_X11_number : yX11_number.cls ≠ "java/lang/invoke/MethodHandle" ∧ yX11_number.cls ≠ "java/lang/invoke/VarHandle" ∧ (parseMethodDescriptor yX11_number.desc).map (fun d => d.parameters.length) = some 2 := by decide +kernel
theorem im_X11_pairs : Cond.instanceMethod yX11_pairs ∈ WS := ws_i (mT8 (List.mem_of_getElem? (i := 25) (by decide +kernel))) (by decide +kernel)
theorem se_X11_pairs : Cond.selects RX11 yX11_pairs yX11_pairs ∈ WS := ws_i (mS7 (q := (yX11_pairs, 49)) (List.mem_of_getElem? (i := 15) (by decide +kernel))) (by decide +kernel)
theorem co_X11_pairs : Cond.code yX11_pairs cX11_pairs 4 (some .int) ∈ WS := ws_i (mT8 (List.mem_of_getElem? (i := 26) (by decide +kernel))) (by decide +kernel)
theorem yo_X11_pairs : yX11_pairs.cls ≠ "java/lang/invoke/MethodHandle" ∧ yX11_pairs.cls ≠ "java/lang/invoke/VarHandle" ∧ (parseMethodDescriptor yX11_pairs.desc).map (fun d => d.parameters.length) = some 0 := by decide +kernel
theorem im_X11_passes : Cond.instanceMethod yX11_passes ∈ WS := ws_i (mT6 (List.mem_of_getElem? (i := 186) (by decide +kernel))) (by decide +kernel)
theorem se_X11_passes : Cond.selects RX11 yX11_passes yX11_passes ∈ WS := ws_i (mS5 (q := (yX11_passes, 49)) (List.mem_of_getElem? (i := 0) (by decide +kernel))) (by decide +kernel)
theorem co_X11_passes : Cond.code yX11_passes cX11_passes 2 (some .boolean) ∈ WS := ws_i (mT6 (List.mem_of_getElem? (i := 187) (by decide +kernel))) (by decide +kernel)
theorem yo_X11_passes : yX11_passes.cls ≠ "java/lang/invoke/MethodHandle" ∧ yX11_passes.cls ≠ "java/lang/invoke/VarHandle" ∧ (parseMethodDescriptor yX11_passes.desc).map (fun d => d.parameters.length) = some 1 := by decide +kernel
theorem im_X11_peace : Cond.instanceMethod yX11_peace ∈ WS := ws_i (mT7 (List.mem_of_getElem? (i := 226) (by decide +kernel))) (by decide +kernel)
theorem se_X11_peace : Cond.selects RX11 yX11_peace yX11_peace ∈ WS := ws_i (mT7 (List.mem_of_getElem? (i := 227) (by decide +kernel))) (by decide +kernel)
theorem co_X11_peace : Cond.code yX11_peace cX11_peace 2 (some .int) ∈ WS := ws_i (mT7 (List.mem_of_getElem? (i := 228) (by decide +kernel))) (by decide +kernel)
theorem yo_X11_peace : yX11_peace.cls ≠ "java/lang/invoke/MethodHandle" ∧ yX11_peace.cls ≠ "java/lang/invoke/VarHandle" ∧ (parseMethodDescriptor yX11_peace.desc).map (fun d => d.parameters.length) = some 0 := by decide +kernel
theorem im_X11_piece : Cond.instanceMethod yX11_piece ∈ WS := ws_i (mT7 (List.mem_of_getElem? (i := 151) (by decide +kernel))) (by decide +kernel)
theorem se_X11_piece : Cond.selects RX11 yX11_piece yX11_piece ∈ WS := ws_i (mT7 (List.mem_of_getElem? (i := 152) (by decide +kernel))) (by decide +kernel)
theorem co_X11_piece : Cond.code yX11_piece cX11_piece 8 (some .int) ∈ WS := ws_i (mT7 (List.mem_of_getElem? (i := 153) (by decide +kernel))) (by decide +kernel)
theorem yo_X11_piece : yX11_piece.cls ≠ "java/lang/invoke/MethodHandle" ∧ yX11_piece.cls ≠ "java/lang/invoke/VarHandle" ∧ (parseMethodDescriptor yX11_piece.desc).map (fun d => d.parameters.length) = some 4 := by decide +kernel
theorem im_X11_place : Cond.instanceMethod yX11_place ∈ WS := ws_i (mT7 (List.mem_of_getElem? (i := 3) (by decide +kernel))) (by decide +kernel)
theorem se_X11_place : Cond.selects RX11 yX11_place yX11_place ∈ WS := ws_i (mT7 (List.mem_of_getElem? (i := 4) (by decide +kernel))) (by decide +kernel)
theorem co_X11_place : Cond.code yX11_place cX11_place 3 (some .int) ∈ WS := ws_i (mT7 (List.mem_of_getElem? (i := 5) (by decide +kernel))) (by decide +kernel)
theorem yo_X11_place : yX11_place.cls ≠ "java/lang/invoke/MethodHandle" ∧ yX11_place.cls ≠ "java/lang/invoke/VarHandle" ∧ (parseMethodDescriptor yX11_place.desc).map (fun d => d.parameters.length) = some 2 := by decide +kernel
theorem im_X11_placeRead : Cond.instanceMethod yX11_placeRead ∈ WS := ws_i (mT6 (List.mem_of_getElem? (i := 214) (by decide +kernel))) (by decide +kernel)
theorem se_X11_placeRead : Cond.selects RX11 yX11_placeRead yX11_placeRead ∈ WS := ws_i (mS5 (q := (yX11_placeRead, 49)) (List.mem_of_getElem? (i := 6) (by decide +kernel))) (by decide +kernel)
theorem co_X11_placeRead : Cond.code yX11_placeRead cX11_placeRead 2 (some .boolean) ∈ WS := ws_i (mT6 (List.mem_of_getElem? (i := 215) (by decide +kernel))) (by decide +kernel)
theorem yo_X11_placeRead : yX11_placeRead.cls ≠ "java/lang/invoke/MethodHandle" ∧ yX11_placeRead.cls ≠ "java/lang/invoke/VarHandle" ∧ (parseMethodDescriptor yX11_placeRead.desc).map (fun d => d.parameters.length) = some 0 := by decide +kernel
theorem im_X11_places : Cond.instanceMethod yX11_places ∈ WS := ws_i (mT7 (List.mem_of_getElem? (i := 12) (by decide +kernel))) (by decide +kernel)
theorem se_X11_places : Cond.selects RX11 yX11_places yX11_places ∈ WS := ws_i (mS5 (q := (yX11_places, 49)) (List.mem_of_getElem? (i := 11) (by decide +kernel))) (by decide +kernel)
theorem co_X11_places : Cond.code yX11_places cX11_places 1 (some .int) ∈ WS := ws_i (mT7 (List.mem_of_getElem? (i := 13) (by decide +kernel))) (by decide +kernel)
theorem yo_X11_places : yX11_places.cls ≠ "java/lang/invoke/MethodHandle" ∧ yX11_places.cls ≠ "java/lang/invoke/VarHandle" ∧ (parseMethodDescriptor yX11_places.desc).map (fun d => d.parameters.length) = some 0 := by decide +kernel
theorem im_X11_proof : Cond.instanceMethod yX11_proof ∈ WS := ws_i (mT7 (List.mem_of_getElem? (i := 121) (by decide +kernel))) (by decide +kernel)
theorem se_X11_proof : Cond.selects RX11 yX11_proof yX11_proof ∈ WS := ws_i (mT7 (List.mem_of_getElem? (i := 122) (by decide +kernel))) (by decide +kernel)
theorem co_X11_proof : Cond.code yX11_proof cX11_proof 5 (some .int) ∈ WS := ws_i (mT7 (List.mem_of_getElem? (i := 123) (by decide +kernel))) (by decide +kernel)
theorem yo_X11_proof : yX11_proof.cls ≠ "java/lang/invoke/MethodHandle" ∧ yX11_proof.cls ≠ "java/lang/invoke/VarHandle" ∧ (parseMethodDescriptor yX11_proof.desc).map (fun d => d.parameters.length) = some 1 := by decide +kernel
theorem im_X11_propose : Cond.instanceMethod yX11_propose ∈ WS := ws_i (mT7 (List.mem_of_getElem? (i := 15) (by decide +kernel))) (by decide +kernel)
theorem se_X11_propose : Cond.selects RX11 yX11_propose yX11_propose ∈ WS := ws_i (mT7 (List.mem_of_getElem? (i := 16) (by decide +kernel))) (by decide +kernel)
theorem co_X11_propose : Cond.code yX11_propose cX11_propose 3 (some .int) ∈ WS := ws_i (mT7 (List.mem_of_getElem? (i := 17) (by decide +kernel))) (by decide +kernel)
theorem yo_X11_propose : yX11_propose.cls ≠ "java/lang/invoke/MethodHandle" ∧ yX11_propose.cls ≠ "java/lang/invoke/VarHandle" ∧ (parseMethodDescriptor yX11_propose.desc).map (fun d => d.parameters.length) = some 2 := by decide +kernel
theorem im_X11_reads : Cond.instanceMethod yX11_reads ∈ WS := ws_i (mT6 (List.mem_of_getElem? (i := 161) (by decide +kernel))) (by decide +kernel)
theorem se_X11_reads : Cond.selects RX11 yX11_reads yX11_reads ∈ WS := ws_i (mS4 (q := (yX11_reads, 49)) (List.mem_of_getElem? (i := 12) (by decide +kernel))) (by decide +kernel)
theorem co_X11_reads : Cond.code yX11_reads cX11_reads 2 none ∈ WS := ws_i (mT6 (List.mem_of_getElem? (i := 162) (by decide +kernel))) (by decide +kernel)
theorem yo_X11_reads : yX11_reads.cls ≠ "java/lang/invoke/MethodHandle" ∧ yX11_reads.cls ≠ "java/lang/invoke/VarHandle" ∧ (parseMethodDescriptor yX11_reads.desc).map (fun d => d.parameters.length) = some 0 := by decide +kernel
theorem im_X11_rest : Cond.instanceMethod yX11_rest ∈ WS := ws_i (mT7 (List.mem_of_getElem? (i := 183) (by decide +kernel))) (by decide +kernel)
theorem se_X11_rest : Cond.selects RX11 yX11_rest yX11_rest ∈ WS := ws_i (mT7 (List.mem_of_getElem? (i := 184) (by decide +kernel))) (by decide +kernel)
theorem co_X11_rest : Cond.code yX11_rest cX11_rest 4 (some .int) ∈ WS := ws_i (mT7 (List.mem_of_getElem? (i := 185) (by decide +kernel))) (by decide +kernel)
theorem yo_X11_rest : yX11_rest.cls ≠ "java/lang/invoke/MethodHandle" ∧ yX11_rest.cls ≠ "java/lang/invoke/VarHandle" ∧ (parseMethodDescriptor yX11_rest.desc).map (fun d => d.parameters.length) = some 0 := by decide +kernel
theorem im_X11_round : Cond.instanceMethod yX11_round ∈ WS := ws_i (mT7 (List.mem_of_getElem? (i := 130) (by decide +kernel))) (by decide +kernel)
theorem se_X11_round : Cond.selects RX11 yX11_round yX11_round ∈ WS := ws_i (mT7 (List.mem_of_getElem? (i := 131) (by decide +kernel))) (by decide +kernel)
theorem co_X11_round : Cond.code yX11_round cX11_round 9 (some .int) ∈ WS := ws_i (mT7 (List.mem_of_getElem? (i := 132) (by decide +kernel))) (by decide +kernel)
theorem yo_X11_round : yX11_round.cls ≠ "java/lang/invoke/MethodHandle" ∧ yX11_round.cls ≠ "java/lang/invoke/VarHandle" ∧ (parseMethodDescriptor yX11_round.desc).map (fun d => d.parameters.length) = some 1 := by decide +kernel
theorem im_X11_sheet : Cond.instanceMethod yX11_sheet ∈ WS := ws_i (mT6 (List.mem_of_getElem? (i := 227) (by decide +kernel))) (by decide +kernel)
theorem se_X11_sheet : Cond.selects RX11 yX11_sheet yX11_sheet ∈ WS := ws_i (mT6 (List.mem_of_getElem? (i := 228) (by decide +kernel))) (by decide +kernel)
theorem co_X11_sheet : Cond.code yX11_sheet cX11_sheet 2 (some .int) ∈ WS := ws_i (mT6 (List.mem_of_getElem? (i := 229) (by decide +kernel))) (by decide +kernel)
theorem yo_X11_sheet : yX11_sheet.cls ≠ "java/lang/invoke/MethodHandle" ∧ yX11_sheet.cls ≠ "java/lang/invoke/VarHandle" ∧ (parseMethodDescriptor yX11_sheet.desc).map (fun d => d.parameters.length) = some 0 := by decide +kernel
theorem im_X11_skips : Cond.instanceMethod yX11_skips ∈ WS := ws_i (mT6 (List.mem_of_getElem? (i := 165) (by decide +kernel))) (by decide +kernel)
theorem se_X11_skips : Cond.selects RX11 yX11_skips yX11_skips ∈ WS := ws_i (mS4 (q := (yX11_skips, 49)) (List.mem_of_getElem? (i := 13) (by decide +kernel))) (by decide +kernel)
theorem co_X11_skips : Cond.code yX11_skips cX11_skips 1 none ∈ WS := ws_i (mT6 (List.mem_of_getElem? (i := 166) (by decide +kernel))) (by decide +kernel)
theorem yo_X11_skips : yX11_skips.cls ≠ "java/lang/invoke/MethodHandle" ∧ yX11_skips.cls ≠ "java/lang/invoke/VarHandle" ∧ (parseMethodDescriptor yX11_skips.desc).map (fun d => d.parameters.length) = some 0 := by decide +kernel
theorem im_X11_stretch : Cond.instanceMethod yX11_stretch ∈ WS := ws_i (mT6 (List.mem_of_getElem? (i := 199) (by decide +kernel))) (by decide +kernel)
theorem se_X11_stretch : Cond.selects RX11 yX11_stretch yX11_stretch ∈ WS := ws_i (mS5 (q := (yX11_stretch, 49)) (List.mem_of_getElem? (i := 3) (by decide +kernel))) (by decide +kernel)
theorem co_X11_stretch : Cond.code yX11_stretch cX11_stretch 2 (some .boolean) ∈ WS := ws_i (mT6 (List.mem_of_getElem? (i := 200) (by decide +kernel))) (by decide +kernel)
theorem yo_X11_stretch : yX11_stretch.cls ≠ "java/lang/invoke/MethodHandle" ∧ yX11_stretch.cls ≠ "java/lang/invoke/VarHandle" ∧ (parseMethodDescriptor yX11_stretch.desc).map (fun d => d.parameters.length) = some 0 := by decide +kernel
theorem im_X11_sure : Cond.instanceMethod yX11_sure ∈ WS := ws_i (mT8 (List.mem_of_getElem? (i := 17) (by decide +kernel))) (by decide +kernel)
theorem se_X11_sure : Cond.selects RX11 yX11_sure yX11_sure ∈ WS := ws_i (mS7 (q := (yX11_sure, 49)) (List.mem_of_getElem? (i := 14) (by decide +kernel))) (by decide +kernel)
theorem co_X11_sure : Cond.code yX11_sure cX11_sure 11 (some .int) ∈ WS := ws_i (mT8 (List.mem_of_getElem? (i := 18) (by decide +kernel))) (by decide +kernel)
theorem yo_X11_sure : yX11_sure.cls ≠ "java/lang/invoke/MethodHandle" ∧ yX11_sure.cls ≠ "java/lang/invoke/VarHandle" ∧ (parseMethodDescriptor yX11_sure.desc).map (fun d => d.parameters.length) = some 4 := by decide +kernel
theorem im_X11_through : Cond.instanceMethod yX11_through ∈ WS := ws_i (mT7 (List.mem_of_getElem? (i := 82) (by decide +kernel))) (by decide +kernel)
theorem se_X11_through : Cond.selects RX11 yX11_through yX11_through ∈ WS := ws_i (mS6 (q := (yX11_through, 49)) (List.mem_of_getElem? (i := 5) (by decide +kernel))) (by decide +kernel)
theorem co_X11_through : Cond.code yX11_through cX11_through 7 none ∈ WS := ws_i (mT7 (List.mem_of_getElem? (i := 83) (by decide +kernel))) (by decide +kernel)
theorem yo_X11_through : yX11_through.cls ≠ "java/lang/invoke/MethodHandle" ∧ yX11_through.cls ≠ "java/lang/invoke/VarHandle" ∧ (parseMethodDescriptor yX11_through.desc).map (fun d => d.parameters.length) = some 2 := by decide +kernel
theorem im_X11_told : Cond.instanceMethod yX11_told ∈ WS := ws_i (mT6 (List.mem_of_getElem? (i := 175) (by decide +kernel))) (by decide +kernel)
theorem se_X11_told : Cond.selects RX11 yX11_told yX11_told ∈ WS := ws_i (mS4 (q := (yX11_told, 49)) (List.mem_of_getElem? (i := 14) (by decide +kernel))) (by decide +kernel)
theorem co_X11_told : Cond.code yX11_told cX11_told 1 (some .boolean) ∈ WS := ws_i (mT6 (List.mem_of_getElem? (i := 176) (by decide +kernel))) (by decide +kernel)
theorem yo_X11_told : yX11_told.cls ≠ "java/lang/invoke/MethodHandle" ∧ yX11_told.cls ≠ "java/lang/invoke/VarHandle" ∧ (parseMethodDescriptor yX11_told.desc).map (fun d => d.parameters.length) = some 0 := by decide +kernel
theorem im_X11_total : Cond.instanceMethod yX11_total ∈ WS := ws_i (mT7 (List.mem_of_getElem? (i := 65) (by decide +kernel))) (by decide +kernel)
theorem se_X11_total : Cond.selects RX11 yX11_total yX11_total ∈ WS := ws_i (mS6 (q := (yX11_total, 49)) (List.mem_of_getElem? (i := 3) (by decide +kernel))) (by decide +kernel)
theorem co_X11_total : Cond.code yX11_total cX11_total 3 (some .int) ∈ WS := ws_i (mT7 (List.mem_of_getElem? (i := 66) (by decide +kernel))) (by decide +kernel)
theorem yo_X11_total : yX11_total.cls ≠ "java/lang/invoke/MethodHandle" ∧ yX11_total.cls ≠ "java/lang/invoke/VarHandle" ∧ (parseMethodDescriptor yX11_total.desc).map (fun d => d.parameters.length) = some 0 := by decide +kernel
theorem im_X11_undo : Cond.instanceMethod yX11_undo ∈ WS := ws_i (mT8 (List.mem_of_getElem? (i := 28) (by decide +kernel))) (by decide +kernel)
theorem se_X11_undo : Cond.selects RX11 yX11_undo yX11_undo ∈ WS := ws_i (mT8 (List.mem_of_getElem? (i := 29) (by decide +kernel))) (by decide +kernel)
theorem co_X11_undo : Cond.code yX11_undo cX11_undo 2 (some .int) ∈ WS := ws_i (mT8 (List.mem_of_getElem? (i := 30) (by decide +kernel))) (by decide +kernel)
theorem yo_X11_undo : yX11_undo.cls ≠ "java/lang/invoke/MethodHandle" ∧ yX11_undo.cls ≠ "java/lang/invoke/VarHandle" ∧ (parseMethodDescriptor yX11_undo.desc).map (fun d => d.parameters.length) = some 0 := by decide +kernel
theorem im_X11_voter : Cond.instanceMethod yX11_voter ∈ WS := ws_i (mT6 (List.mem_of_getElem? (i := 235) (by decide +kernel))) (by decide +kernel)
theorem se_X11_voter : Cond.selects RX11 yX11_voter yX11_voter ∈ WS := ws_i (mT6 (List.mem_of_getElem? (i := 236) (by decide +kernel))) (by decide +kernel)
theorem co_X11_voter : Cond.code yX11_voter cX11_voter 3 (some .int) ∈ WS := ws_i (mT6 (List.mem_of_getElem? (i := 237) (by decide +kernel))) (by decide +kernel)
theorem yo_X11_voter : yX11_voter.cls ≠ "java/lang/invoke/MethodHandle" ∧ yX11_voter.cls ≠ "java/lang/invoke/VarHandle" ∧ (parseMethodDescriptor yX11_voter.desc).map (fun d => d.parameters.length) = some 2 := by decide +kernel
theorem im_X11_voterRead : Cond.instanceMethod yX11_voterRead ∈ WS := ws_i (mT6 (List.mem_of_getElem? (i := 208) (by decide +kernel))) (by decide +kernel)
theorem se_X11_voterRead : Cond.selects RX11 yX11_voterRead yX11_voterRead ∈ WS := ws_i (mS5 (q := (yX11_voterRead, 49)) (List.mem_of_getElem? (i := 5) (by decide +kernel))) (by decide +kernel)
theorem co_X11_voterRead : Cond.code yX11_voterRead cX11_voterRead 2 (some .boolean) ∈ WS := ws_i (mT6 (List.mem_of_getElem? (i := 209) (by decide +kernel))) (by decide +kernel)
theorem yo_X11_voterRead : yX11_voterRead.cls ≠ "java/lang/invoke/MethodHandle" ∧ yX11_voterRead.cls ≠ "java/lang/invoke/VarHandle" ∧ (parseMethodDescriptor yX11_voterRead.desc).map (fun d => d.parameters.length) = some 0 := by decide +kernel
theorem im_X11_voters : Cond.instanceMethod yX11_voters ∈ WS := ws_i (mT6 (List.mem_of_getElem? (i := 232) (by decide +kernel))) (by decide +kernel)
theorem se_X11_voters : Cond.selects RX11 yX11_voters yX11_voters ∈ WS := ws_i (mS5 (q := (yX11_voters, 49)) (List.mem_of_getElem? (i := 8) (by decide +kernel))) (by decide +kernel)
theorem co_X11_voters : Cond.code yX11_voters cX11_voters 1 (some .int) ∈ WS := ws_i (mT6 (List.mem_of_getElem? (i := 233) (by decide +kernel))) (by decide +kernel)
theorem yo_X11_voters : yX11_voters.cls ≠ "java/lang/invoke/MethodHandle" ∧ yX11_voters.cls ≠ "java/lang/invoke/VarHandle" ∧ (parseMethodDescriptor yX11_voters.desc).map (fun d => d.parameters.length) = some 0 := by decide +kernel
theorem im_X11_votes : Cond.instanceMethod yX11_votes ∈ WS := ws_i (mT7 (List.mem_of_getElem? (i := 36) (by decide +kernel))) (by decide +kernel)
theorem se_X11_votes : Cond.selects RX11 yX11_votes yX11_votes ∈ WS := ws_i (mT7 (List.mem_of_getElem? (i := 37) (by decide +kernel))) (by decide +kernel)
theorem co_X11_votes : Cond.code yX11_votes cX11_votes 3 (some .int) ∈ WS := ws_i (mT7 (List.mem_of_getElem? (i := 38) (by decide +kernel))) (by decide +kernel)
theorem yo_X11_votes : yX11_votes.cls ≠ "java/lang/invoke/MethodHandle" ∧ yX11_votes.cls ≠ "java/lang/invoke/VarHandle" ∧ (parseMethodDescriptor yX11_votes.desc).map (fun d => d.parameters.length) = some 2 := by decide +kernel
theorem im_X11_votesOf : Cond.instanceMethod yX11_votesOf ∈ WS := ws_i (mT7 (List.mem_of_getElem? (i := 41) (by decide +kernel))) (by decide +kernel)
theorem se_X11_votesOf : Cond.selects RX11 yX11_votesOf yX11_votesOf ∈ WS := ws_i (mS5 (q := (yX11_votesOf, 49)) (List.mem_of_getElem? (i := 14) (by decide +kernel))) (by decide +kernel)
theorem co_X11_votesOf : Cond.code yX11_votesOf cX11_votesOf 3 (some .int) ∈ WS := ws_i (mT7 (List.mem_of_getElem? (i := 42) (by decide +kernel))) (by decide +kernel)
theorem yo_X11_votesOf : yX11_votesOf.cls ≠ "java/lang/invoke/MethodHandle" ∧ yX11_votesOf.cls ≠ "java/lang/invoke/VarHandle" ∧ (parseMethodDescriptor yX11_votesOf.desc).map (fun d => d.parameters.length) = some 2 := by decide +kernel
theorem im_X11_way : Cond.instanceMethod yX11_way ∈ WS := ws_i (mT7 (List.mem_of_getElem? (i := 23) (by decide +kernel))) (by decide +kernel)
theorem se_X11_way : Cond.selects RX11 yX11_way yX11_way ∈ WS := ws_i (mT7 (List.mem_of_getElem? (i := 24) (by decide +kernel))) (by decide +kernel)
theorem co_X11_way : Cond.code yX11_way cX11_way 4 (some .int) ∈ WS := ws_i (mT7 (List.mem_of_getElem? (i := 25) (by decide +kernel))) (by decide +kernel)
theorem yo_X11_way : yX11_way.cls ≠ "java/lang/invoke/MethodHandle" ∧ yX11_way.cls ≠ "java/lang/invoke/VarHandle" ∧ (parseMethodDescriptor yX11_way.desc).map (fun d => d.parameters.length) = some 3 := by decide +kernel
theorem im_X11_wayFrom : Cond.instanceMethod yX11_wayFrom ∈ WS := ws_i (mT7 (List.mem_of_getElem? (i := 32) (by decide +kernel))) (by decide +kernel)
theorem se_X11_wayFrom : Cond.selects RX11 yX11_wayFrom yX11_wayFrom ∈ WS := ws_i (mS5 (q := (yX11_wayFrom, 49)) (List.mem_of_getElem? (i := 13) (by decide +kernel))) (by decide +kernel)
theorem co_X11_wayFrom : Cond.code yX11_wayFrom cX11_wayFrom 8 (some .int) ∈ WS := ws_i (mT7 (List.mem_of_getElem? (i := 33) (by decide +kernel))) (by decide +kernel)
theorem yo_X11_wayFrom : yX11_wayFrom.cls ≠ "java/lang/invoke/MethodHandle" ∧ yX11_wayFrom.cls ≠ "java/lang/invoke/VarHandle" ∧ (parseMethodDescriptor yX11_wayFrom.desc).map (fun d => d.parameters.length) = some 5 := by decide +kernel
theorem im_X11_wayOf : Cond.instanceMethod yX11_wayOf ∈ WS := ws_i (mT7 (List.mem_of_getElem? (i := 28) (by decide +kernel))) (by decide +kernel)
theorem se_X11_wayOf : Cond.selects RX11 yX11_wayOf yX11_wayOf ∈ WS := ws_i (mS5 (q := (yX11_wayOf, 49)) (List.mem_of_getElem? (i := 12) (by decide +kernel))) (by decide +kernel)
theorem co_X11_wayOf : Cond.code yX11_wayOf cX11_wayOf 4 (some .int) ∈ WS := ws_i (mT7 (List.mem_of_getElem? (i := 29) (by decide +kernel))) (by decide +kernel)
theorem yo_X11_wayOf : yX11_wayOf.cls ≠ "java/lang/invoke/MethodHandle" ∧ yX11_wayOf.cls ≠ "java/lang/invoke/VarHandle" ∧ (parseMethodDescriptor yX11_wayOf.desc).map (fun d => d.parameters.length) = some 3 := by decide +kernel
theorem im_X11_winRead : Cond.instanceMethod yX11_winRead ∈ WS := ws_i (mT6 (List.mem_of_getElem? (i := 219) (by decide +kernel))) (by decide +kernel)
theorem se_X11_winRead : Cond.selects RX11 yX11_winRead yX11_winRead ∈ WS := ws_i (mS5 (q := (yX11_winRead, 49)) (List.mem_of_getElem? (i := 7) (by decide +kernel))) (by decide +kernel)
theorem co_X11_winRead : Cond.code yX11_winRead cX11_winRead 1 (some .boolean) ∈ WS := ws_i (mT6 (List.mem_of_getElem? (i := 220) (by decide +kernel))) (by decide +kernel)
theorem yo_X11_winRead : yX11_winRead.cls ≠ "java/lang/invoke/MethodHandle" ∧ yX11_winRead.cls ≠ "java/lang/invoke/VarHandle" ∧ (parseMethodDescriptor yX11_winRead.desc).map (fun d => d.parameters.length) = some 0 := by decide +kernel
theorem im_X11_winSet : Cond.instanceMethod yX11_winSet ∈ WS := ws_i (mT7 (List.mem_of_getElem? (i := 139) (by decide +kernel))) (by decide +kernel)
theorem se_X11_winSet : Cond.selects RX11 yX11_winSet yX11_winSet ∈ WS := ws_i (mT7 (List.mem_of_getElem? (i := 140) (by decide +kernel))) (by decide +kernel)
theorem co_X11_winSet : Cond.code yX11_winSet cX11_winSet 4 (some .int) ∈ WS := ws_i (mT7 (List.mem_of_getElem? (i := 141) (by decide +kernel))) (by decide +kernel)
theorem yo_X11_winSet : yX11_winSet.cls ≠ "java/lang/invoke/MethodHandle" ∧ yX11_winSet.cls ≠ "java/lang/invoke/VarHandle" ∧ (parseMethodDescriptor yX11_winSet.desc).map (fun d => d.parameters.length) = some 3 := by decide +kernel
theorem im_X11_wins : Cond.instanceMethod yX11_wins ∈ WS := ws_i (mT7 (List.mem_of_getElem? (i := 68) (by decide +kernel))) (by decide +kernel)
theorem se_X11_wins : Cond.selects RX11 yX11_wins yX11_wins ∈ WS := ws_i (mT7 (List.mem_of_getElem? (i := 69) (by decide +kernel))) (by decide +kernel)
theorem co_X11_wins : Cond.code yX11_wins cX11_wins 3 (some .boolean) ∈ WS := ws_i (mT7 (List.mem_of_getElem? (i := 70) (by decide +kernel))) (by decide +kernel)
theorem yo_X11_wins : yX11_wins.cls ≠ "java/lang/invoke/MethodHandle" ∧ yX11_wins.cls ≠ "java/lang/invoke/VarHandle" ∧ (parseMethodDescriptor yX11_wins.desc).map (fun d => d.parameters.length) = some 2 := by decide +kernel
theorem im_X1_cutPieces : Cond.instanceMethod yX1_cutPieces ∈ WS := ws_i (mT4 (List.mem_of_getElem? (i := 205) (by decide +kernel))) (by decide +kernel)
theorem se_X1_cutPieces : Cond.selects RX1 yX1_cutPieces yX1_cutPieces ∈ WS := ws_i (mT4 (List.mem_of_getElem? (i := 206) (by decide +kernel))) (by decide +kernel)
theorem co_X1_cutPieces : Cond.code yX1_cutPieces cX1_cutPieces 3 none ∈ WS := ws_i (mT4 (List.mem_of_getElem? (i := 207) (by decide +kernel))) (by decide +kernel)
theorem yo_X1_cutPieces : yX1_cutPieces.cls ≠ "java/lang/invoke/MethodHandle" ∧ yX1_cutPieces.cls ≠ "java/lang/invoke/VarHandle" ∧ (parseMethodDescriptor yX1_cutPieces.desc).map (fun d => d.parameters.length) = some 0 := by decide +kernel
theorem im_X1_firstBeatenBy : Cond.instanceMethod yX1_firstBeatenBy ∈ WS := ws_i (mT5 (List.mem_of_getElem? (i := 27) (by decide +kernel))) (by decide +kernel)
theorem se_X1_firstBeatenBy : Cond.selects RX1 yX1_firstBeatenBy yX1_firstBeatenBy ∈ WS := ws_i (mT5 (List.mem_of_getElem? (i := 28) (by decide +kernel))) (by decide +kernel)
theorem co_X1_firstBeatenBy : Cond.code yX1_firstBeatenBy cX1_firstBeatenBy 4 (some .int) ∈ WS := ws_i (mT5 (List.mem_of_getElem? (i := 29) (by decide +kernel))) (by decide +kernel)
theorem yo_X1_firstBeatenBy : yX1_firstBeatenBy.cls ≠ "java/lang/invoke/MethodHandle" ∧ yX1_firstBeatenBy.cls ≠ "java/lang/invoke/VarHandle" ∧ (parseMethodDescriptor yX1_firstBeatenBy.desc).map (fun d => d.parameters.length) = some 2 := by decide +kernel
theorem im_X1_firstOf : Cond.instanceMethod yX1_firstOf ∈ WS := ws_i (mT4 (List.mem_of_getElem? (i := 225) (by decide +kernel))) (by decide +kernel)
theorem se_X1_firstOf : Cond.selects RX1 yX1_firstOf yX1_firstOf ∈ WS := ws_i (mT4 (List.mem_of_getElem? (i := 226) (by decide +kernel))) (by decide +kernel)
theorem co_X1_firstOf : Cond.code yX1_firstOf cX1_firstOf 2 (some .int) ∈ WS := ws_i (mT4 (List.mem_of_getElem? (i := 227) (by decide +kernel))) (by decide +kernel)
theorem yo_X1_firstOf : yX1_firstOf.cls ≠ "java/lang/invoke/MethodHandle" ∧ yX1_firstOf.cls ≠ "java/lang/invoke/VarHandle" ∧ (parseMethodDescriptor yX1_firstOf.desc).map (fun d => d.parameters.length) = some 1 := by decide +kernel
theorem im_X1_init : Cond.instanceMethod yX1_init ∈ WS := ws_i (mT4 (List.mem_of_getElem? (i := 139) (by decide +kernel))) (by decide +kernel)
theorem co_X1_init : Cond.code yX1_init cX1_init 2 none ∈ WS := ws_i (mT4 (List.mem_of_getElem? (i := 140) (by decide +kernel))) (by decide +kernel)
theorem yo_X1_init : yX1_init.cls ≠ "java/lang/invoke/MethodHandle" ∧ yX1_init.cls ≠ "java/lang/invoke/VarHandle" ∧ (parseMethodDescriptor yX1_init.desc).map (fun d => d.parameters.length) = some 1 := by decide +kernel
theorem im_X1_lookFrom : Cond.instanceMethod yX1_lookFrom ∈ WS := ws_i (mT4 (List.mem_of_getElem? (i := 181) (by decide +kernel))) (by decide +kernel)
theorem se_X1_lookFrom : Cond.selects RX1 yX1_lookFrom yX1_lookFrom ∈ WS := ws_i (mT4 (List.mem_of_getElem? (i := 182) (by decide +kernel))) (by decide +kernel)
theorem co_X1_lookFrom : Cond.code yX1_lookFrom cX1_lookFrom 5 none ∈ WS := ws_i (mT4 (List.mem_of_getElem? (i := 183) (by decide +kernel))) (by decide +kernel)
theorem yo_X1_lookFrom : yX1_lookFrom.cls ≠ "java/lang/invoke/MethodHandle" ∧ yX1_lookFrom.cls ≠ "java/lang/invoke/VarHandle" ∧ (parseMethodDescriptor yX1_lookFrom.desc).map (fun d => d.parameters.length) = some 2 := by decide +kernel
theorem im_X1_markColumn : Cond.instanceMethod yX1_markColumn ∈ WS := ws_i (mT4 (List.mem_of_getElem? (i := 197) (by decide +kernel))) (by decide +kernel)
theorem se_X1_markColumn : Cond.selects RX1 yX1_markColumn yX1_markColumn ∈ WS := ws_i (mS3 (q := (yX1_markColumn, 11)) (List.mem_of_getElem? (i := 4) (by decide +kernel))) (by decide +kernel)
theorem co_X1_markColumn : Cond.code yX1_markColumn cX1_markColumn 7 none ∈ WS := ws_i (mT4 (List.mem_of_getElem? (i := 198) (by decide +kernel))) (by decide +kernel)
theorem yo_X1_markColumn : yX1_markColumn.cls ≠ "java/lang/invoke/MethodHandle" ∧ yX1_markColumn.cls ≠ "java/lang/invoke/VarHandle" ∧ (parseMethodDescriptor yX1_markColumn.desc).map (fun d => d.parameters.length) = some 4 := by decide +kernel
theorem im_X1_markWithin : Cond.instanceMethod yX1_markWithin ∈ WS := ws_i (mT4 (List.mem_of_getElem? (i := 192) (by decide +kernel))) (by decide +kernel)
theorem se_X1_markWithin : Cond.selects RX1 yX1_markWithin yX1_markWithin ∈ WS := ws_i (mS3 (q := (yX1_markWithin, 11)) (List.mem_of_getElem? (i := 3) (by decide +kernel))) (by decide +kernel)
theorem co_X1_markWithin : Cond.code yX1_markWithin cX1_markWithin 6 none ∈ WS := ws_i (mT4 (List.mem_of_getElem? (i := 193) (by decide +kernel))) (by decide +kernel)
theorem yo_X1_markWithin : yX1_markWithin.cls ≠ "java/lang/invoke/MethodHandle" ∧ yX1_markWithin.cls ≠ "java/lang/invoke/VarHandle" ∧ (parseMethodDescriptor yX1_markWithin.desc).map (fun d => d.parameters.length) = some 3 := by decide +kernel
theorem im_X1_refillWinning : Cond.instanceMethod yX1_refillWinning ∈ WS := ws_i (mT5 (List.mem_of_getElem? (i := 32) (by decide +kernel))) (by decide +kernel)
theorem se_X1_refillWinning : Cond.selects RX1 yX1_refillWinning yX1_refillWinning ∈ WS := ws_i (mS3 (q := (yX1_refillWinning, 11)) (List.mem_of_getElem? (i := 9) (by decide +kernel))) (by decide +kernel)
theorem co_X1_refillWinning : Cond.code yX1_refillWinning cX1_refillWinning 2 none ∈ WS := ws_i (mT5 (List.mem_of_getElem? (i := 33) (by decide +kernel))) (by decide +kernel)
theorem yo_X1_refillWinning : yX1_refillWinning.cls ≠ "java/lang/invoke/MethodHandle" ∧ yX1_refillWinning.cls ≠ "java/lang/invoke/VarHandle" ∧ (parseMethodDescriptor yX1_refillWinning.desc).map (fun d => d.parameters.length) = some 0 := by decide +kernel
theorem im_X1_sizeOf : Cond.instanceMethod yX1_sizeOf ∈ WS := ws_i (mT4 (List.mem_of_getElem? (i := 221) (by decide +kernel))) (by decide +kernel)
theorem se_X1_sizeOf : Cond.selects RX1 yX1_sizeOf yX1_sizeOf ∈ WS := ws_i (mT4 (List.mem_of_getElem? (i := 222) (by decide +kernel))) (by decide +kernel)
theorem co_X1_sizeOf : Cond.code yX1_sizeOf cX1_sizeOf 2 (some .int) ∈ WS := ws_i (mT4 (List.mem_of_getElem? (i := 223) (by decide +kernel))) (by decide +kernel)
theorem yo_X1_sizeOf : yX1_sizeOf.cls ≠ "java/lang/invoke/MethodHandle" ∧ yX1_sizeOf.cls ≠ "java/lang/invoke/VarHandle" ∧ (parseMethodDescriptor yX1_sizeOf.desc).map (fun d => d.parameters.length) = some 1 := by decide +kernel
theorem st_X1_sumColumns : Cond.static yX1_sumColumns ∈ WS := ws_i (mT4 (List.mem_of_getElem? (i := 201) (by decide +kernel))) (by decide +kernel)
theorem co_X1_sumColumns : Cond.code yX1_sumColumns cX1_sumColumns 2 none ∈ WS := ws_i (mT4 (List.mem_of_getElem? (i := 202) (by decide +kernel))) (by decide +kernel)
theorem yo_X1_sumColumns : yX1_sumColumns.cls ≠ "java/lang/invoke/MethodHandle" ∧ yX1_sumColumns.cls ≠ "java/lang/invoke/VarHandle" ∧ (parseMethodDescriptor yX1_sumColumns.desc).map (fun d => d.parameters.length) = some 1 := by decide +kernel
theorem im_X1_takePiece : Cond.instanceMethod yX1_takePiece ∈ WS := ws_i (mT4 (List.mem_of_getElem? (i := 210) (by decide +kernel))) (by decide +kernel)
theorem se_X1_takePiece : Cond.selects RX1 yX1_takePiece yX1_takePiece ∈ WS := ws_i (mS3 (q := (yX1_takePiece, 11)) (List.mem_of_getElem? (i := 5) (by decide +kernel))) (by decide +kernel)
theorem co_X1_takePiece : Cond.code yX1_takePiece cX1_takePiece 6 (some .int) ∈ WS := ws_i (mT4 (List.mem_of_getElem? (i := 211) (by decide +kernel))) (by decide +kernel)
theorem yo_X1_takePiece : yX1_takePiece.cls ≠ "java/lang/invoke/MethodHandle" ∧ yX1_takePiece.cls ≠ "java/lang/invoke/VarHandle" ∧ (parseMethodDescriptor yX1_takePiece.desc).map (fun d => d.parameters.length) = some 2 := by decide +kernel
theorem im_X1_takePoint : Cond.instanceMethod yX1_takePoint ∈ WS := ws_i (mT4 (List.mem_of_getElem? (i := 214) (by decide +kernel))) (by decide +kernel)
theorem se_X1_takePoint : Cond.selects RX1 yX1_takePoint yX1_takePoint ∈ WS := ws_i (mS3 (q := (yX1_takePoint, 11)) (List.mem_of_getElem? (i := 6) (by decide +kernel))) (by decide +kernel)
theorem co_X1_takePoint : Cond.code yX1_takePoint cX1_takePoint 3 (some .int) ∈ WS := ws_i (mT4 (List.mem_of_getElem? (i := 215) (by decide +kernel))) (by decide +kernel)
theorem yo_X1_takePoint : yX1_takePoint.cls ≠ "java/lang/invoke/MethodHandle" ∧ yX1_takePoint.cls ≠ "java/lang/invoke/VarHandle" ∧ (parseMethodDescriptor yX1_takePoint.desc).map (fun d => d.parameters.length) = some 2 := by decide +kernel
theorem im_X1_weigh : Cond.instanceMethod yX1_weigh ∈ WS := ws_i (mT4 (List.mem_of_getElem? (i := 186) (by decide +kernel))) (by decide +kernel)
theorem se_X1_weigh : Cond.selects RX1 yX1_weigh yX1_weigh ∈ WS := ws_i (mS3 (q := (yX1_weigh, 11)) (List.mem_of_getElem? (i := 2) (by decide +kernel))) (by decide +kernel)
theorem co_X1_weigh : Cond.code yX1_weigh cX1_weigh 5 none ∈ WS := ws_i (mT4 (List.mem_of_getElem? (i := 187) (by decide +kernel))) (by decide +kernel)
theorem yo_X1_weigh : yX1_weigh.cls ≠ "java/lang/invoke/MethodHandle" ∧ yX1_weigh.cls ≠ "java/lang/invoke/VarHandle" ∧ (parseMethodDescriptor yX1_weigh.desc).map (fun d => d.parameters.length) = some 2 := by decide +kernel
theorem im_X2_addThrough : Cond.instanceMethod yX2_addThrough ∈ WS := ws_i (mT4 (List.mem_of_getElem? (i := 7) (by decide +kernel))) (by decide +kernel)
theorem se_X2_addThrough : Cond.selects RX2 yX2_addThrough yX2_addThrough ∈ WS := ws_i (mS2 (q := (yX2_addThrough, 6)) (List.mem_of_getElem? (i := 0) (by decide +kernel))) (by decide +kernel)
theorem co_X2_addThrough : Cond.code yX2_addThrough cX2_addThrough 9 none ∈ WS := ws_i (mT4 (List.mem_of_getElem? (i := 8) (by decide +kernel))) (by decide +kernel)
theorem yo_X2_addThrough : yX2_addThrough.cls ≠ "java/lang/invoke/MethodHandle" ∧ yX2_addThrough.cls ≠ "java/lang/invoke/VarHandle" ∧ (parseMethodDescriptor yX2_addThrough.desc).map (fun d => d.parameters.length) = some 2 := by decide +kernel
theorem im_X2_crossingX : Cond.instanceMethod yX2_crossingX ∈ WS := ws_i (mT4 (List.mem_of_getElem? (i := 78) (by decide +kernel))) (by decide +kernel)
theorem se_X2_crossingX : Cond.selects RX2 yX2_crossingX yX2_crossingX ∈ WS := ws_i (mT4 (List.mem_of_getElem? (i := 79) (by decide +kernel))) (by decide +kernel)
theorem co_X2_crossingX : Cond.code yX2_crossingX cX2_crossingX 3 (some .long) ∈ WS := ws_i (mT4 (List.mem_of_getElem? (i := 80) (by decide +kernel))) (by decide +kernel)
theorem yo_X2_crossingX : yX2_crossingX.cls ≠ "java/lang/invoke/MethodHandle" ∧ yX2_crossingX.cls ≠ "java/lang/invoke/VarHandle" ∧ (parseMethodDescriptor yX2_crossingX.desc).map (fun d => d.parameters.length) = some 2 := by decide +kernel
theorem im_X2_crossingY : Cond.instanceMethod yX2_crossingY ∈ WS := ws_i (mT4 (List.mem_of_getElem? (i := 82) (by decide +kernel))) (by decide +kernel)
theorem se_X2_crossingY : Cond.selects RX2 yX2_crossingY yX2_crossingY ∈ WS := ws_i (mT4 (List.mem_of_getElem? (i := 83) (by decide +kernel))) (by decide +kernel)
theorem co_X2_crossingY : Cond.code yX2_crossingY cX2_crossingY 3 (some .long) ∈ WS := ws_i (mT4 (List.mem_of_getElem? (i := 84) (by decide +kernel))) (by decide +kernel)
theorem yo_X2_crossingY : yX2_crossingY.cls ≠ "java/lang/invoke/MethodHandle" ∧ yX2_crossingY.cls ≠ "java/lang/invoke/VarHandle" ∧ (parseMethodDescriptor yX2_crossingY.desc).map (fun d => d.parameters.length) = some 2 := by decide +kernel
theorem im_X2_init : Cond.instanceMethod yX2_init ∈ WS := ws_i (mT1 (List.mem_of_getElem? (i := 225) (by decide +kernel))) (by decide +kernel)
theorem co_X2_init : Cond.code yX2_init cX2_init 2 none ∈ WS := ws_i (mT1 (List.mem_of_getElem? (i := 226) (by decide +kernel))) (by decide +kernel)
theorem yo_X2_init : yX2_init.cls ≠ "java/lang/invoke/MethodHandle" ∧ yX2_init.cls ≠ "java/lang/invoke/VarHandle" ∧ (parseMethodDescriptor yX2_init.desc).map (fun d => d.parameters.length) = some 1 := by decide +kernel
theorem im_X2_insert : Cond.instanceMethod yX2_insert ∈ WS := ws_i (mT4 (List.mem_of_getElem? (i := 25) (by decide +kernel))) (by decide +kernel)
theorem se_X2_insert : Cond.selects RX2 yX2_insert yX2_insert ∈ WS := ws_i (mS2 (q := (yX2_insert, 6)) (List.mem_of_getElem? (i := 2) (by decide +kernel))) (by decide +kernel)
theorem co_X2_insert : Cond.code yX2_insert cX2_insert 6 none ∈ WS := ws_i (mT4 (List.mem_of_getElem? (i := 26) (by decide +kernel))) (by decide +kernel)
theorem yo_X2_insert : yX2_insert.cls ≠ "java/lang/invoke/MethodHandle" ∧ yX2_insert.cls ≠ "java/lang/invoke/VarHandle" ∧ (parseMethodDescriptor yX2_insert.desc).map (fun d => d.parameters.length) = some 3 := by decide +kernel
theorem im_X2_isHalving : Cond.instanceMethod yX2_isHalving ∈ WS := ws_i (mT4 (List.mem_of_getElem? (i := 17) (by decide +kernel))) (by decide +kernel)
theorem se_X2_isHalving : Cond.selects RX2 yX2_isHalving yX2_isHalving ∈ WS := ws_i (mS2 (q := (yX2_isHalving, 6)) (List.mem_of_getElem? (i := 1) (by decide +kernel))) (by decide +kernel)
theorem co_X2_isHalving : Cond.code yX2_isHalving cX2_isHalving 8 (some .boolean) ∈ WS := ws_i (mT4 (List.mem_of_getElem? (i := 18) (by decide +kernel))) (by decide +kernel)
theorem yo_X2_isHalving : yX2_isHalving.cls ≠ "java/lang/invoke/MethodHandle" ∧ yX2_isHalving.cls ≠ "java/lang/invoke/VarHandle" ∧ (parseMethodDescriptor yX2_isHalving.desc).map (fun d => d.parameters.length) = some 3 := by decide +kernel
theorem im_X2_order : Cond.instanceMethod yX2_order ∈ WS := ws_i (mT4 (List.mem_of_getElem? (i := 29) (by decide +kernel))) (by decide +kernel)
theorem se_X2_order : Cond.selects RX2 yX2_order yX2_order ∈ WS := ws_i (mS2 (q := (yX2_order, 6)) (List.mem_of_getElem? (i := 3) (by decide +kernel))) (by decide +kernel)
theorem co_X2_order : Cond.code yX2_order cX2_order 5 (some .int) ∈ WS := ws_i (mT4 (List.mem_of_getElem? (i := 30) (by decide +kernel))) (by decide +kernel)
theorem yo_X2_order : yX2_order.cls ≠ "java/lang/invoke/MethodHandle" ∧ yX2_order.cls ≠ "java/lang/invoke/VarHandle" ∧ (parseMethodDescriptor yX2_order.desc).map (fun d => d.parameters.length) = some 4 := by decide +kernel
theorem im_X2_refresh : Cond.instanceMethod yX2_refresh ∈ WS := ws_i (mT4 (List.mem_of_getElem? (i := 2) (by decide +kernel))) (by decide +kernel)
theorem se_X2_refresh : Cond.selects RX2 yX2_refresh yX2_refresh ∈ WS := ws_i (mT4 (List.mem_of_getElem? (i := 3) (by decide +kernel))) (by decide +kernel)
theorem co_X2_refresh : Cond.code yX2_refresh cX2_refresh 3 none ∈ WS := ws_i (mT4 (List.mem_of_getElem? (i := 4) (by decide +kernel))) (by decide +kernel)
theorem yo_X2_refresh : yX2_refresh.cls ≠ "java/lang/invoke/MethodHandle" ∧ yX2_refresh.cls ≠ "java/lang/invoke/VarHandle" ∧ (parseMethodDescriptor yX2_refresh.desc).map (fun d => d.parameters.length) = some 0 := by decide +kernel
theorem im_X2_turnBetween : Cond.instanceMethod yX2_turnBetween ∈ WS := ws_i (mT4 (List.mem_of_getElem? (i := 74) (by decide +kernel))) (by decide +kernel)
theorem se_X2_turnBetween : Cond.selects RX2 yX2_turnBetween yX2_turnBetween ∈ WS := ws_i (mT4 (List.mem_of_getElem? (i := 75) (by decide +kernel))) (by decide +kernel)
theorem co_X2_turnBetween : Cond.code yX2_turnBetween cX2_turnBetween 3 (some .long) ∈ WS := ws_i (mT4 (List.mem_of_getElem? (i := 76) (by decide +kernel))) (by decide +kernel)
theorem yo_X2_turnBetween : yX2_turnBetween.cls ≠ "java/lang/invoke/MethodHandle" ∧ yX2_turnBetween.cls ≠ "java/lang/invoke/VarHandle" ∧ (parseMethodDescriptor yX2_turnBetween.desc).map (fun d => d.parameters.length) = some 2 := by decide +kernel
theorem im_X3_expand : Cond.instanceMethod yX3_expand ∈ WS := ws_i (mT5 (List.mem_of_getElem? (i := 59) (by decide +kernel))) (by decide +kernel)
theorem se_X3_expand : Cond.selects RX3 yX3_expand yX3_expand ∈ WS := ws_i (mS3 (q := (yX3_expand, 10)) (List.mem_of_getElem? (i := 13) (by decide +kernel))) (by decide +kernel)
theorem co_X3_expand : Cond.code yX3_expand cX3_expand 8 (some .long) ∈ WS := ws_i (mT5 (List.mem_of_getElem? (i := 60) (by decide +kernel))) (by decide +kernel)
theorem yo_X3_expand : yX3_expand.cls ≠ "java/lang/invoke/MethodHandle" ∧ yX3_expand.cls ≠ "java/lang/invoke/VarHandle" ∧ (parseMethodDescriptor yX3_expand.desc).map (fun d => d.parameters.length) = some 1 := by decide +kernel
theorem im_X3_fillPfaffians : Cond.instanceMethod yX3_fillPfaffians ∈ WS := ws_i (mT5 (List.mem_of_getElem? (i := 54) (by decide +kernel))) (by decide +kernel)
theorem se_X3_fillPfaffians : Cond.selects RX3 yX3_fillPfaffians yX3_fillPfaffians ∈ WS := ws_i (mS3 (q := (yX3_fillPfaffians, 10)) (List.mem_of_getElem? (i := 12) (by decide +kernel))) (by decide +kernel)
theorem co_X3_fillPfaffians : Cond.code yX3_fillPfaffians cX3_fillPfaffians 2 none ∈ WS := ws_i (mT5 (List.mem_of_getElem? (i := 55) (by decide +kernel))) (by decide +kernel)
theorem yo_X3_fillPfaffians : yX3_fillPfaffians.cls ≠ "java/lang/invoke/MethodHandle" ∧ yX3_fillPfaffians.cls ≠ "java/lang/invoke/VarHandle" ∧ (parseMethodDescriptor yX3_fillPfaffians.desc).map (fun d => d.parameters.length) = some 0 := by decide +kernel
theorem im_X3_findLots : Cond.instanceMethod yX3_findLots ∈ WS := ws_i (mT5 (List.mem_of_getElem? (i := 67) (by decide +kernel))) (by decide +kernel)
theorem se_X3_findLots : Cond.selects RX3 yX3_findLots yX3_findLots ∈ WS := ws_i (mS3 (q := (yX3_findLots, 10)) (List.mem_of_getElem? (i := 14) (by decide +kernel))) (by decide +kernel)
theorem co_X3_findLots : Cond.code yX3_findLots cX3_findLots 3 none ∈ WS := ws_i (mT5 (List.mem_of_getElem? (i := 68) (by decide +kernel))) (by decide +kernel)
theorem yo_X3_findLots : yX3_findLots.cls ≠ "java/lang/invoke/MethodHandle" ∧ yX3_findLots.cls ≠ "java/lang/invoke/VarHandle" ∧ (parseMethodDescriptor yX3_findLots.desc).map (fun d => d.parameters.length) = some 0 := by decide +kernel
theorem im_X3_findRest : Cond.instanceMethod yX3_findRest ∈ WS := ws_i (mT5 (List.mem_of_getElem? (i := 46) (by decide +kernel))) (by decide +kernel)
theorem se_X3_findRest : Cond.selects RX3 yX3_findRest yX3_findRest ∈ WS := ws_i (mS3 (q := (yX3_findRest, 10)) (List.mem_of_getElem? (i := 10) (by decide +kernel))) (by decide +kernel)
theorem co_X3_findRest : Cond.code yX3_findRest cX3_findRest 4 none ∈ WS := ws_i (mT5 (List.mem_of_getElem? (i := 47) (by decide +kernel))) (by decide +kernel)
theorem yo_X3_findRest : yX3_findRest.cls ≠ "java/lang/invoke/MethodHandle" ∧ yX3_findRest.cls ≠ "java/lang/invoke/VarHandle" ∧ (parseMethodDescriptor yX3_findRest.desc).map (fun d => d.parameters.length) = some 0 := by decide +kernel
theorem im_X3_gainOf : Cond.instanceMethod yX3_gainOf ∈ WS := ws_i (mT5 (List.mem_of_getElem? (i := 50) (by decide +kernel))) (by decide +kernel)
theorem se_X3_gainOf : Cond.selects RX3 yX3_gainOf yX3_gainOf ∈ WS := ws_i (mS3 (q := (yX3_gainOf, 10)) (List.mem_of_getElem? (i := 11) (by decide +kernel))) (by decide +kernel)
theorem co_X3_gainOf : Cond.code yX3_gainOf cX3_gainOf 3 (some .int) ∈ WS := ws_i (mT5 (List.mem_of_getElem? (i := 51) (by decide +kernel))) (by decide +kernel)
theorem yo_X3_gainOf : yX3_gainOf.cls ≠ "java/lang/invoke/MethodHandle" ∧ yX3_gainOf.cls ≠ "java/lang/invoke/VarHandle" ∧ (parseMethodDescriptor yX3_gainOf.desc).map (fun d => d.parameters.length) = some 2 := by decide +kernel
theorem im_X3_init : Cond.instanceMethod yX3_init ∈ WS := ws_i (mT2 (List.mem_of_getElem? (i := 92) (by decide +kernel))) (by decide +kernel)
theorem co_X3_init : Cond.code yX3_init cX3_init 2 none ∈ WS := ws_i (mT2 (List.mem_of_getElem? (i := 93) (by decide +kernel))) (by decide +kernel)
theorem yo_X3_init : yX3_init.cls ≠ "java/lang/invoke/MethodHandle" ∧ yX3_init.cls ≠ "java/lang/invoke/VarHandle" ∧ (parseMethodDescriptor yX3_init.desc).map (fun d => d.parameters.length) = some 1 := by decide +kernel
theorem im_X3_nobodyGains : Cond.instanceMethod yX3_nobodyGains ∈ WS := ws_i (mT5 (List.mem_of_getElem? (i := 79) (by decide +kernel))) (by decide +kernel)
theorem se_X3_nobodyGains : Cond.selects RX3 yX3_nobodyGains yX3_nobodyGains ∈ WS := ws_i (mS4 (q := (yX3_nobodyGains, 10)) (List.mem_of_getElem? (i := 0) (by decide +kernel))) (by decide +kernel)
theorem co_X3_nobodyGains : Cond.code yX3_nobodyGains cX3_nobodyGains 5 (some .boolean) ∈ WS := ws_i (mT5 (List.mem_of_getElem? (i := 80) (by decide +kernel))) (by decide +kernel)
theorem yo_X3_nobodyGains : yX3_nobodyGains.cls ≠ "java/lang/invoke/MethodHandle" ∧ yX3_nobodyGains.cls ≠ "java/lang/invoke/VarHandle" ∧ (parseMethodDescriptor yX3_nobodyGains.desc).map (fun d => d.parameters.length) = some 0 := by decide +kernel
theorem im_X3_reduce : Cond.instanceMethod yX3_reduce ∈ WS := ws_i (mT5 (List.mem_of_getElem? (i := 83) (by decide +kernel))) (by decide +kernel)
theorem se_X3_reduce : Cond.selects RX3 yX3_reduce yX3_reduce ∈ WS := ws_i (mS4 (q := (yX3_reduce, 10)) (List.mem_of_getElem? (i := 1) (by decide +kernel))) (by decide +kernel)
theorem co_X3_reduce : Cond.code yX3_reduce cX3_reduce 4 none ∈ WS := ws_i (mT5 (List.mem_of_getElem? (i := 84) (by decide +kernel))) (by decide +kernel)
theorem yo_X3_reduce : yX3_reduce.cls ≠ "java/lang/invoke/MethodHandle" ∧ yX3_reduce.cls ≠ "java/lang/invoke/VarHandle" ∧ (parseMethodDescriptor yX3_reduce.desc).map (fun d => d.parameters.length) = some 0 := by decide +kernel
theorem im_X3_refresh : Cond.instanceMethod yX3_refresh ∈ WS := ws_i (mT5 (List.mem_of_getElem? (i := 39) (by decide +kernel))) (by decide +kernel)
theorem se_X3_refresh : Cond.selects RX3 yX3_refresh yX3_refresh ∈ WS := ws_i (mT5 (List.mem_of_getElem? (i := 40) (by decide +kernel))) (by decide +kernel)
theorem co_X3_refresh : Cond.code yX3_refresh cX3_refresh 4 none ∈ WS := ws_i (mT5 (List.mem_of_getElem? (i := 41) (by decide +kernel))) (by decide +kernel)
theorem yo_X3_refresh : yX3_refresh.cls ≠ "java/lang/invoke/MethodHandle" ∧ yX3_refresh.cls ≠ "java/lang/invoke/VarHandle" ∧ (parseMethodDescriptor yX3_refresh.desc).map (fun d => d.parameters.length) = some 0 := by decide +kernel
theorem im_X3_shareAmong : Cond.instanceMethod yX3_shareAmong ∈ WS := ws_i (mT5 (List.mem_of_getElem? (i := 71) (by decide +kernel))) (by decide +kernel)
theorem se_X3_shareAmong : Cond.selects RX3 yX3_shareAmong yX3_shareAmong ∈ WS := ws_i (mS3 (q := (yX3_shareAmong, 10)) (List.mem_of_getElem? (i := 15) (by decide +kernel))) (by decide +kernel)
theorem co_X3_shareAmong : Cond.code yX3_shareAmong cX3_shareAmong 8 (some .boolean) ∈ WS := ws_i (mT5 (List.mem_of_getElem? (i := 72) (by decide +kernel))) (by decide +kernel)
theorem yo_X3_shareAmong : yX3_shareAmong.cls ≠ "java/lang/invoke/MethodHandle" ∧ yX3_shareAmong.cls ≠ "java/lang/invoke/VarHandle" ∧ (parseMethodDescriptor yX3_shareAmong.desc).map (fun d => d.parameters.length) = some 1 := by decide +kernel
theorem im_X4_ask : Cond.instanceMethod yX4_ask ∈ WS := ws_i (mT4 (List.mem_of_getElem? (i := 46) (by decide +kernel))) (by decide +kernel)
theorem se_X4_ask : Cond.selects RX4 yX4_ask yX4_ask ∈ WS := ws_i (mS2 (q := (yX4_ask, 8)) (List.mem_of_getElem? (i := 4) (by decide +kernel))) (by decide +kernel)
theorem co_X4_ask : Cond.code yX4_ask cX4_ask 15 none ∈ WS := ws_i (mT4 (List.mem_of_getElem? (i := 47) (by decide +kernel))) (by decide +kernel)
theorem yo_X4_ask : yX4_ask.cls ≠ "java/lang/invoke/MethodHandle" ∧ yX4_ask.cls ≠ "java/lang/invoke/VarHandle" ∧ (parseMethodDescriptor yX4_ask.desc).map (fun d => d.parameters.length) = some 3 := by decide +kernel
theorem im_X4_askCrossing : Cond.instanceMethod yX4_askCrossing ∈ WS := ws_i (mT4 (List.mem_of_getElem? (i := 71) (by decide +kernel))) (by decide +kernel)
theorem se_X4_askCrossing : Cond.selects RX4 yX4_askCrossing yX4_askCrossing ∈ WS := ws_i (mS2 (q := (yX4_askCrossing, 8)) (List.mem_of_getElem? (i := 9) (by decide +kernel))) (by decide +kernel)
theorem co_X4_askCrossing : Cond.code yX4_askCrossing cX4_askCrossing 5 none ∈ WS := ws_i (mT4 (List.mem_of_getElem? (i := 72) (by decide +kernel))) (by decide +kernel)
theorem yo_X4_askCrossing : yX4_askCrossing.cls ≠ "java/lang/invoke/MethodHandle" ∧ yX4_askCrossing.cls ≠ "java/lang/invoke/VarHandle" ∧ (parseMethodDescriptor yX4_askCrossing.desc).map (fun d => d.parameters.length) = some 2 := by decide +kernel
theorem im_X4_findProof : Cond.instanceMethod yX4_findProof ∈ WS := ws_i (mT4 (List.mem_of_getElem? (i := 88) (by decide +kernel))) (by decide +kernel)
theorem se_X4_findProof : Cond.selects RX4 yX4_findProof yX4_findProof ∈ WS := ws_i (mS2 (q := (yX4_findProof, 8)) (List.mem_of_getElem? (i := 10) (by decide +kernel))) (by decide +kernel)
theorem co_X4_findProof : Cond.code yX4_findProof cX4_findProof 4 none ∈ WS := ws_i (mT4 (List.mem_of_getElem? (i := 89) (by decide +kernel))) (by decide +kernel)
theorem yo_X4_findProof : yX4_findProof.cls ≠ "java/lang/invoke/MethodHandle" ∧ yX4_findProof.cls ≠ "java/lang/invoke/VarHandle" ∧ (parseMethodDescriptor yX4_findProof.desc).map (fun d => d.parameters.length) = some 0 := by decide +kernel
theorem im_X4_firstApart : Cond.instanceMethod yX4_firstApart ∈ WS := ws_i (mT4 (List.mem_of_getElem? (i := 92) (by decide +kernel))) (by decide +kernel)
theorem se_X4_firstApart : Cond.selects RX4 yX4_firstApart yX4_firstApart ∈ WS := ws_i (mS2 (q := (yX4_firstApart, 8)) (List.mem_of_getElem? (i := 11) (by decide +kernel))) (by decide +kernel)
theorem co_X4_firstApart : Cond.code yX4_firstApart cX4_firstApart 10 (some .int) ∈ WS := ws_i (mT4 (List.mem_of_getElem? (i := 93) (by decide +kernel))) (by decide +kernel)
theorem yo_X4_firstApart : yX4_firstApart.cls ≠ "java/lang/invoke/MethodHandle" ∧ yX4_firstApart.cls ≠ "java/lang/invoke/VarHandle" ∧ (parseMethodDescriptor yX4_firstApart.desc).map (fun d => d.parameters.length) = some 2 := by decide +kernel
theorem im_X4_init : Cond.instanceMethod yX4_init ∈ WS := ws_i (mT2 (List.mem_of_getElem? (i := 23) (by decide +kernel))) (by decide +kernel)
theorem co_X4_init : Cond.code yX4_init cX4_init 3 none ∈ WS := ws_i (mT2 (List.mem_of_getElem? (i := 24) (by decide +kernel))) (by decide +kernel)
theorem yo_X4_init : yX4_init.cls ≠ "java/lang/invoke/MethodHandle" ∧ yX4_init.cls ≠ "java/lang/invoke/VarHandle" ∧ (parseMethodDescriptor yX4_init.desc).map (fun d => d.parameters.length) = some 2 := by decide +kernel
theorem im_X4_insert : Cond.instanceMethod yX4_insert ∈ WS := ws_i (mT4 (List.mem_of_getElem? (i := 60) (by decide +kernel))) (by decide +kernel)
theorem se_X4_insert : Cond.selects RX4 yX4_insert yX4_insert ∈ WS := ws_i (mS2 (q := (yX4_insert, 8)) (List.mem_of_getElem? (i := 7) (by decide +kernel))) (by decide +kernel)
theorem co_X4_insert : Cond.code yX4_insert cX4_insert 9 none ∈ WS := ws_i (mT4 (List.mem_of_getElem? (i := 61) (by decide +kernel))) (by decide +kernel)
theorem yo_X4_insert : yX4_insert.cls ≠ "java/lang/invoke/MethodHandle" ∧ yX4_insert.cls ≠ "java/lang/invoke/VarHandle" ∧ (parseMethodDescriptor yX4_insert.desc).map (fun d => d.parameters.length) = some 3 := by decide +kernel
theorem im_X4_isCrowdedFrom : Cond.instanceMethod yX4_isCrowdedFrom ∈ WS := ws_i (mT4 (List.mem_of_getElem? (i := 55) (by decide +kernel))) (by decide +kernel)
theorem se_X4_isCrowdedFrom : Cond.selects RX4 yX4_isCrowdedFrom yX4_isCrowdedFrom ∈ WS := ws_i (mS2 (q := (yX4_isCrowdedFrom, 8)) (List.mem_of_getElem? (i := 6) (by decide +kernel))) (by decide +kernel)
theorem co_X4_isCrowdedFrom : Cond.code yX4_isCrowdedFrom cX4_isCrowdedFrom 22 (some .boolean) ∈ WS := ws_i (mT4 (List.mem_of_getElem? (i := 56) (by decide +kernel))) (by decide +kernel)
theorem yo_X4_isCrowdedFrom : yX4_isCrowdedFrom.cls ≠ "java/lang/invoke/MethodHandle" ∧ yX4_isCrowdedFrom.cls ≠ "java/lang/invoke/VarHandle" ∧ (parseMethodDescriptor yX4_isCrowdedFrom.desc).map (fun d => d.parameters.length) = some 4 := by decide +kernel
theorem im_X4_isMiddle : Cond.instanceMethod yX4_isMiddle ∈ WS := ws_i (mT4 (List.mem_of_getElem? (i := 51) (by decide +kernel))) (by decide +kernel)
theorem se_X4_isMiddle : Cond.selects RX4 yX4_isMiddle yX4_isMiddle ∈ WS := ws_i (mS2 (q := (yX4_isMiddle, 8)) (List.mem_of_getElem? (i := 5) (by decide +kernel))) (by decide +kernel)
theorem co_X4_isMiddle : Cond.code yX4_isMiddle cX4_isMiddle 8 (some .boolean) ∈ WS := ws_i (mT4 (List.mem_of_getElem? (i := 52) (by decide +kernel))) (by decide +kernel)
theorem yo_X4_isMiddle : yX4_isMiddle.cls ≠ "java/lang/invoke/MethodHandle" ∧ yX4_isMiddle.cls ≠ "java/lang/invoke/VarHandle" ∧ (parseMethodDescriptor yX4_isMiddle.desc).map (fun d => d.parameters.length) = some 3 := by decide +kernel
theorem im_X4_order : Cond.instanceMethod yX4_order ∈ WS := ws_i (mT4 (List.mem_of_getElem? (i := 64) (by decide +kernel))) (by decide +kernel)
theorem se_X4_order : Cond.selects RX4 yX4_order yX4_order ∈ WS := ws_i (mS2 (q := (yX4_order, 8)) (List.mem_of_getElem? (i := 8) (by decide +kernel))) (by decide +kernel)
theorem co_X4_order : Cond.code yX4_order cX4_order 9 (some .int) ∈ WS := ws_i (mT4 (List.mem_of_getElem? (i := 65) (by decide +kernel))) (by decide +kernel)
theorem yo_X4_order : yX4_order.cls ≠ "java/lang/invoke/MethodHandle" ∧ yX4_order.cls ≠ "java/lang/invoke/VarHandle" ∧ (parseMethodDescriptor yX4_order.desc).map (fun d => d.parameters.length) = some 4 := by decide +kernel
theorem im_X4_refresh : Cond.instanceMethod yX4_refresh ∈ WS := ws_i (mT4 (List.mem_of_getElem? (i := 40) (by decide +kernel))) (by decide +kernel)
theorem se_X4_refresh : Cond.selects RX4 yX4_refresh yX4_refresh ∈ WS := ws_i (mT4 (List.mem_of_getElem? (i := 41) (by decide +kernel))) (by decide +kernel)
theorem co_X4_refresh : Cond.code yX4_refresh cX4_refresh 3 none ∈ WS := ws_i (mT4 (List.mem_of_getElem? (i := 42) (by decide +kernel))) (by decide +kernel)
theorem yo_X4_refresh : yX4_refresh.cls ≠ "java/lang/invoke/MethodHandle" ∧ yX4_refresh.cls ≠ "java/lang/invoke/VarHandle" ∧ (parseMethodDescriptor yX4_refresh.desc).map (fun d => d.parameters.length) = some 0 := by decide +kernel
theorem im_X5_close : Cond.instanceMethod yX5_close ∈ WS := ws_i (mT5 (List.mem_of_getElem? (i := 197) (by decide +kernel))) (by decide +kernel)
theorem se_X5_close : Cond.selects RX5 yX5_close yX5_close ∈ WS := ws_i (mT5 (List.mem_of_getElem? (i := 198) (by decide +kernel))) (by decide +kernel)
theorem co_X5_close : Cond.code yX5_close cX5_close 5 none ∈ WS := ws_i (mT5 (List.mem_of_getElem? (i := 199) (by decide +kernel))) (by decide +kernel)
theorem yo_X5_close : yX5_close.cls ≠ "java/lang/invoke/MethodHandle" ∧ yX5_close.cls ≠ "java/lang/invoke/VarHandle" ∧ (parseMethodDescriptor yX5_close.desc).map (fun d => d.parameters.length) = some 4 := by decide +kernel
theorem im_X5_get : Cond.instanceMethod yX5_get ∈ WS := ws_i (mT5 (List.mem_of_getElem? (i := 205) (by decide +kernel))) (by decide +kernel)
theorem se_X5_get : Cond.selects RX5 yX5_get yX5_get ∈ WS := ws_i (mT5 (List.mem_of_getElem? (i := 206) (by decide +kernel))) (by decide +kernel)
theorem co_X5_get : Cond.code yX5_get cX5_get 3 (some .int) ∈ WS := ws_i (mT5 (List.mem_of_getElem? (i := 207) (by decide +kernel))) (by decide +kernel)
theorem yo_X5_get : yX5_get.cls ≠ "java/lang/invoke/MethodHandle" ∧ yX5_get.cls ≠ "java/lang/invoke/VarHandle" ∧ (parseMethodDescriptor yX5_get.desc).map (fun d => d.parameters.length) = some 2 := by decide +kernel
theorem im_X5_init : Cond.instanceMethod yX5_init ∈ WS := ws_i (mT2 (List.mem_of_getElem? (i := 177) (by decide +kernel))) (by decide +kernel)
theorem co_X5_init : Cond.code yX5_init cX5_init 1 none ∈ WS := ws_i (mT2 (List.mem_of_getElem? (i := 178) (by decide +kernel))) (by decide +kernel)
theorem yo_X5_init : yX5_init.cls ≠ "java/lang/invoke/MethodHandle" ∧ yX5_init.cls ≠ "java/lang/invoke/VarHandle" ∧ (parseMethodDescriptor yX5_init.desc).map (fun d => d.parameters.length) = some 0 := by decide +kernel
theorem im_X5_open : Cond.instanceMethod yX5_open ∈ WS := ws_i (mT5 (List.mem_of_getElem? (i := 184) (by decide +kernel))) (by decide +kernel)
theorem se_X5_open : Cond.selects RX5 yX5_open yX5_open ∈ WS := ws_i (mT5 (List.mem_of_getElem? (i := 185) (by decide +kernel))) (by decide +kernel)
theorem co_X5_open : Cond.code yX5_open cX5_open 6 none ∈ WS := ws_i (mT5 (List.mem_of_getElem? (i := 186) (by decide +kernel))) (by decide +kernel)
theorem yo_X5_open : yX5_open.cls ≠ "java/lang/invoke/MethodHandle" ∧ yX5_open.cls ≠ "java/lang/invoke/VarHandle" ∧ (parseMethodDescriptor yX5_open.desc).map (fun d => d.parameters.length) = some 5 := by decide +kernel
theorem im_X5_set : Cond.instanceMethod yX5_set ∈ WS := ws_i (mT5 (List.mem_of_getElem? (i := 189) (by decide +kernel))) (by decide +kernel)
theorem se_X5_set : Cond.selects RX5 yX5_set yX5_set ∈ WS := ws_i (mS4 (q := (yX5_set, 2)) (List.mem_of_getElem? (i := 10) (by decide +kernel))) (by decide +kernel)
theorem co_X5_set : Cond.code yX5_set cX5_set 3 none ∈ WS := ws_i (mT5 (List.mem_of_getElem? (i := 190) (by decide +kernel))) (by decide +kernel)
theorem yo_X5_set : yX5_set.cls ≠ "java/lang/invoke/MethodHandle" ∧ yX5_set.cls ≠ "java/lang/invoke/VarHandle" ∧ (parseMethodDescriptor yX5_set.desc).map (fun d => d.parameters.length) = some 2 := by decide +kernel
theorem im_X6_append : Cond.instanceMethod yX6_append ∈ WS := ws_i (mT2 (List.mem_of_getElem? (i := 224) (by decide +kernel))) (by decide +kernel)
theorem se_X6_append : Cond.selects RX6 yX6_append yX6_append ∈ WS := ws_i (mT2 (List.mem_of_getElem? (i := 225) (by decide +kernel))) (by decide +kernel)
theorem co_X6_append : Cond.code yX6_append cX6_append 3 none ∈ WS := ws_i (mT2 (List.mem_of_getElem? (i := 226) (by decide +kernel))) (by decide +kernel)
theorem yo_X6_append : yX6_append.cls ≠ "java/lang/invoke/MethodHandle" ∧ yX6_append.cls ≠ "java/lang/invoke/VarHandle" ∧ (parseMethodDescriptor yX6_append.desc).map (fun d => d.parameters.length) = some 1 := by decide +kernel
theorem im_X6_findFault : Cond.instanceMethod yX6_findFault ∈ WS := ws_i (mT2 (List.mem_of_getElem? (i := 236) (by decide +kernel))) (by decide +kernel)
theorem se_X6_findFault : Cond.selects RX6 yX6_findFault yX6_findFault ∈ WS := ws_i (mT2 (List.mem_of_getElem? (i := 237) (by decide +kernel))) (by decide +kernel)
theorem co_X6_findFault : Cond.code yX6_findFault cX6_findFault 2 (some .int) ∈ WS := ws_i (mT2 (List.mem_of_getElem? (i := 238) (by decide +kernel))) (by decide +kernel)
theorem yo_X6_findFault : yX6_findFault.cls ≠ "java/lang/invoke/MethodHandle" ∧ yX6_findFault.cls ≠ "java/lang/invoke/VarHandle" ∧ (parseMethodDescriptor yX6_findFault.desc).map (fun d => d.parameters.length) = some 0 := by decide +kernel
theorem im_X6_init : Cond.instanceMethod yX6_init ∈ WS := ws_i (mT1 (List.mem_of_getElem? (i := 141) (by decide +kernel))) (by decide +kernel)
theorem co_X6_init : Cond.code yX6_init cX6_init 1 none ∈ WS := ws_i (mT1 (List.mem_of_getElem? (i := 142) (by decide +kernel))) (by decide +kernel)
theorem yo_X6_init : yX6_init.cls ≠ "java/lang/invoke/MethodHandle" ∧ yX6_init.cls ≠ "java/lang/invoke/VarHandle" ∧ (parseMethodDescriptor yX6_init.desc).map (fun d => d.parameters.length) = some 0 := by decide +kernel
theorem im_X6_isDigit : Cond.instanceMethod yX6_isDigit ∈ WS := ws_i (mT3 (List.mem_of_getElem? (i := 13) (by decide +kernel))) (by decide +kernel)
theorem se_X6_isDigit : Cond.selects RX6 yX6_isDigit yX6_isDigit ∈ WS := ws_i (mS1 (q := (yX6_isDigit, 11)) (List.mem_of_getElem? (i := 2) (by decide +kernel))) (by decide +kernel)
theorem co_X6_isDigit : Cond.code yX6_isDigit cX6_isDigit 2 (some .boolean) ∈ WS := ws_i (mT3 (List.mem_of_getElem? (i := 14) (by decide +kernel))) (by decide +kernel)
theorem yo_X6_isDigit : yX6_isDigit.cls ≠ "java/lang/invoke/MethodHandle" ∧ yX6_isDigit.cls ≠ "java/lang/invoke/VarHandle" ∧ (parseMethodDescriptor yX6_isDigit.desc).map (fun d => d.parameters.length) = some 1 := by decide +kernel
theorem im_X6_isLetter : Cond.instanceMethod yX6_isLetter ∈ WS := ws_i (mT3 (List.mem_of_getElem? (i := 9) (by decide +kernel))) (by decide +kernel)
theorem se_X6_isLetter : Cond.selects RX6 yX6_isLetter yX6_isLetter ∈ WS := ws_i (mS1 (q := (yX6_isLetter, 11)) (List.mem_of_getElem? (i := 1) (by decide +kernel))) (by decide +kernel)
theorem co_X6_isLetter : Cond.code yX6_isLetter cX6_isLetter 2 (some .boolean) ∈ WS := ws_i (mT3 (List.mem_of_getElem? (i := 10) (by decide +kernel))) (by decide +kernel)
theorem yo_X6_isLetter : yX6_isLetter.cls ≠ "java/lang/invoke/MethodHandle" ∧ yX6_isLetter.cls ≠ "java/lang/invoke/VarHandle" ∧ (parseMethodDescriptor yX6_isLetter.desc).map (fun d => d.parameters.length) = some 1 := by decide +kernel
theorem im_X6_isNumber : Cond.instanceMethod yX6_isNumber ∈ WS := ws_i (mT3 (List.mem_of_getElem? (i := 98) (by decide +kernel))) (by decide +kernel)
theorem se_X6_isNumber : Cond.selects RX6 yX6_isNumber yX6_isNumber ∈ WS := ws_i (mS1 (q := (yX6_isNumber, 11)) (List.mem_of_getElem? (i := 9) (by decide +kernel))) (by decide +kernel)
theorem co_X6_isNumber : Cond.code yX6_isNumber cX6_isNumber 3 (some .boolean) ∈ WS := ws_i (mT3 (List.mem_of_getElem? (i := 99) (by decide +kernel))) (by decide +kernel)
theorem yo_X6_isNumber : yX6_isNumber.cls ≠ "java/lang/invoke/MethodHandle" ∧ yX6_isNumber.cls ≠ "java/lang/invoke/VarHandle" ∧ (parseMethodDescriptor yX6_isNumber.desc).map (fun d => d.parameters.length) = some 2 := by decide +kernel
theorem im_X6_isWord : Cond.instanceMethod yX6_isWord ∈ WS := ws_i (mT3 (List.mem_of_getElem? (i := 29) (by decide +kernel))) (by decide +kernel)
theorem se_X6_isWord : Cond.selects RX6 yX6_isWord yX6_isWord ∈ WS := ws_i (mS1 (q := (yX6_isWord, 11)) (List.mem_of_getElem? (i := 5) (by decide +kernel))) (by decide +kernel)
theorem co_X6_isWord : Cond.code yX6_isWord cX6_isWord 3 (some .boolean) ∈ WS := ws_i (mT3 (List.mem_of_getElem? (i := 30) (by decide +kernel))) (by decide +kernel)
theorem yo_X6_isWord : yX6_isWord.cls ≠ "java/lang/invoke/MethodHandle" ∧ yX6_isWord.cls ≠ "java/lang/invoke/VarHandle" ∧ (parseMethodDescriptor yX6_isWord.desc).map (fun d => d.parameters.length) = some 1 := by decide +kernel
theorem im_X6_next : Cond.instanceMethod yX6_next ∈ WS := ws_i (mT3 (List.mem_of_getElem? (i := 5) (by decide +kernel))) (by decide +kernel)
theorem se_X6_next : Cond.selects RX6 yX6_next yX6_next ∈ WS := ws_i (mS1 (q := (yX6_next, 11)) (List.mem_of_getElem? (i := 0) (by decide +kernel))) (by decide +kernel)
theorem co_X6_next : Cond.code yX6_next cX6_next 1 none ∈ WS := ws_i (mT3 (List.mem_of_getElem? (i := 6) (by decide +kernel))) (by decide +kernel)
theorem yo_X6_next : yX6_next.cls ≠ "java/lang/invoke/MethodHandle" ∧ yX6_next.cls ≠ "java/lang/invoke/VarHandle" ∧ (parseMethodDescriptor yX6_next.desc).map (fun d => d.parameters.length) = some 0 := by decide +kernel
theorem im_X6_passSemicolon : Cond.instanceMethod yX6_passSemicolon ∈ WS := ws_i (mT3 (List.mem_of_getElem? (i := 89) (by decide +kernel))) (by decide +kernel)
theorem se_X6_passSemicolon : Cond.selects RX6 yX6_passSemicolon yX6_passSemicolon ∈ WS := ws_i (mS1 (q := (yX6_passSemicolon, 11)) (List.mem_of_getElem? (i := 7) (by decide +kernel))) (by decide +kernel)
theorem co_X6_passSemicolon : Cond.code yX6_passSemicolon cX6_passSemicolon 1 (some .boolean) ∈ WS := ws_i (mT3 (List.mem_of_getElem? (i := 90) (by decide +kernel))) (by decide +kernel)
theorem yo_X6_passSemicolon : yX6_passSemicolon.cls ≠ "java/lang/invoke/MethodHandle" ∧ yX6_passSemicolon.cls ≠ "java/lang/invoke/VarHandle" ∧ (parseMethodDescriptor yX6_passSemicolon.desc).map (fun d => d.parameters.length) = some 0 := by decide +kernel
theorem im_X6_readBar : Cond.instanceMethod yX6_readBar ∈ WS := ws_i (mT3 (List.mem_of_getElem? (i := 122) (by decide +kernel))) (by decide +kernel)
theorem se_X6_readBar : Cond.selects RX6 yX6_readBar yX6_readBar ∈ WS := ws_i (mS1 (q := (yX6_readBar, 11)) (List.mem_of_getElem? (i := 12) (by decide +kernel))) (by decide +kernel)
theorem co_X6_readBar : Cond.code yX6_readBar cX6_readBar 1 (some .boolean) ∈ WS := ws_i (mT3 (List.mem_of_getElem? (i := 123) (by decide +kernel))) (by decide +kernel)
theorem yo_X6_readBar : yX6_readBar.cls ≠ "java/lang/invoke/MethodHandle" ∧ yX6_readBar.cls ≠ "java/lang/invoke/VarHandle" ∧ (parseMethodDescriptor yX6_readBar.desc).map (fun d => d.parameters.length) = some 0 := by decide +kernel
theorem im_X6_readNear : Cond.instanceMethod yX6_readNear ∈ WS := ws_i (mT3 (List.mem_of_getElem? (i := 81) (by decide +kernel))) (by decide +kernel)
theorem se_X6_readNear : Cond.selects RX6 yX6_readNear yX6_readNear ∈ WS := ws_i (mS1 (q := (yX6_readNear, 11)) (List.mem_of_getElem? (i := 6) (by decide +kernel))) (by decide +kernel)
theorem co_X6_readNear : Cond.code yX6_readNear cX6_readNear 1 (some .boolean) ∈ WS := ws_i (mT3 (List.mem_of_getElem? (i := 82) (by decide +kernel))) (by decide +kernel)
theorem yo_X6_readNear : yX6_readNear.cls ≠ "java/lang/invoke/MethodHandle" ∧ yX6_readNear.cls ≠ "java/lang/invoke/VarHandle" ∧ (parseMethodDescriptor yX6_readNear.desc).map (fun d => d.parameters.length) = some 0 := by decide +kernel
theorem im_X6_readOne : Cond.instanceMethod yX6_readOne ∈ WS := ws_i (mT3 (List.mem_of_getElem? (i := 24) (by decide +kernel))) (by decide +kernel)
theorem se_X6_readOne : Cond.selects RX6 yX6_readOne yX6_readOne ∈ WS := ws_i (mS1 (q := (yX6_readOne, 11)) (List.mem_of_getElem? (i := 4) (by decide +kernel))) (by decide +kernel)
theorem co_X6_readOne : Cond.code yX6_readOne cX6_readOne 1 (some .boolean) ∈ WS := ws_i (mT3 (List.mem_of_getElem? (i := 25) (by decide +kernel))) (by decide +kernel)
theorem yo_X6_readOne : yX6_readOne.cls ≠ "java/lang/invoke/MethodHandle" ∧ yX6_readOne.cls ≠ "java/lang/invoke/VarHandle" ∧ (parseMethodDescriptor yX6_readOne.desc).map (fun d => d.parameters.length) = some 0 := by decide +kernel
theorem im_X6_readPlace : Cond.instanceMethod yX6_readPlace ∈ WS := ws_i (mT3 (List.mem_of_getElem? (i := 113) (by decide +kernel))) (by decide +kernel)
theorem se_X6_readPlace : Cond.selects RX6 yX6_readPlace yX6_readPlace ∈ WS := ws_i (mS1 (q := (yX6_readPlace, 11)) (List.mem_of_getElem? (i := 11) (by decide +kernel))) (by decide +kernel)
theorem co_X6_readPlace : Cond.code yX6_readPlace cX6_readPlace 2 (some .boolean) ∈ WS := ws_i (mT3 (List.mem_of_getElem? (i := 114) (by decide +kernel))) (by decide +kernel)
theorem yo_X6_readPlace : yX6_readPlace.cls ≠ "java/lang/invoke/MethodHandle" ∧ yX6_readPlace.cls ≠ "java/lang/invoke/VarHandle" ∧ (parseMethodDescriptor yX6_readPlace.desc).map (fun d => d.parameters.length) = some 0 := by decide +kernel
theorem im_X6_readShare : Cond.instanceMethod yX6_readShare ∈ WS := ws_i (mT3 (List.mem_of_getElem? (i := 129) (by decide +kernel))) (by decide +kernel)
theorem se_X6_readShare : Cond.selects RX6 yX6_readShare yX6_readShare ∈ WS := ws_i (mS1 (q := (yX6_readShare, 11)) (List.mem_of_getElem? (i := 13) (by decide +kernel))) (by decide +kernel)
theorem co_X6_readShare : Cond.code yX6_readShare cX6_readShare 1 (some .boolean) ∈ WS := ws_i (mT3 (List.mem_of_getElem? (i := 130) (by decide +kernel))) (by decide +kernel)
theorem yo_X6_readShare : yX6_readShare.cls ≠ "java/lang/invoke/MethodHandle" ∧ yX6_readShare.cls ≠ "java/lang/invoke/VarHandle" ∧ (parseMethodDescriptor yX6_readShare.desc).map (fun d => d.parameters.length) = some 0 := by decide +kernel
theorem im_X6_readStretch : Cond.instanceMethod yX6_readStretch ∈ WS := ws_i (mT3 (List.mem_of_getElem? (i := 94) (by decide +kernel))) (by decide +kernel)
theorem se_X6_readStretch : Cond.selects RX6 yX6_readStretch yX6_readStretch ∈ WS := ws_i (mS1 (q := (yX6_readStretch, 11)) (List.mem_of_getElem? (i := 8) (by decide +kernel))) (by decide +kernel)
theorem co_X6_readStretch : Cond.code yX6_readStretch cX6_readStretch 1 (some .boolean) ∈ WS := ws_i (mT3 (List.mem_of_getElem? (i := 95) (by decide +kernel))) (by decide +kernel)
theorem yo_X6_readStretch : yX6_readStretch.cls ≠ "java/lang/invoke/MethodHandle" ∧ yX6_readStretch.cls ≠ "java/lang/invoke/VarHandle" ∧ (parseMethodDescriptor yX6_readStretch.desc).map (fun d => d.parameters.length) = some 0 := by decide +kernel
theorem im_X6_readVoter : Cond.instanceMethod yX6_readVoter ∈ WS := ws_i (mT3 (List.mem_of_getElem? (i := 103) (by decide +kernel))) (by decide +kernel)
theorem se_X6_readVoter : Cond.selects RX6 yX6_readVoter yX6_readVoter ∈ WS := ws_i (mS1 (q := (yX6_readVoter, 11)) (List.mem_of_getElem? (i := 10) (by decide +kernel))) (by decide +kernel)
theorem co_X6_readVoter : Cond.code yX6_readVoter cX6_readVoter 4 (some .boolean) ∈ WS := ws_i (mT3 (List.mem_of_getElem? (i := 104) (by decide +kernel))) (by decide +kernel)
theorem yo_X6_readVoter : yX6_readVoter.cls ≠ "java/lang/invoke/MethodHandle" ∧ yX6_readVoter.cls ≠ "java/lang/invoke/VarHandle" ∧ (parseMethodDescriptor yX6_readVoter.desc).map (fun d => d.parameters.length) = some 0 := by decide +kernel
theorem im_X6_signAt : Cond.instanceMethod yX6_signAt ∈ WS := ws_i (mT3 (List.mem_of_getElem? (i := 20) (by decide +kernel))) (by decide +kernel)
theorem se_X6_signAt : Cond.selects RX6 yX6_signAt yX6_signAt ∈ WS := ws_i (mS1 (q := (yX6_signAt, 11)) (List.mem_of_getElem? (i := 3) (by decide +kernel))) (by decide +kernel)
theorem co_X6_signAt : Cond.code yX6_signAt cX6_signAt 2 (some .int) ∈ WS := ws_i (mT3 (List.mem_of_getElem? (i := 21) (by decide +kernel))) (by decide +kernel)
theorem yo_X6_signAt : yX6_signAt.cls ≠ "java/lang/invoke/MethodHandle" ∧ yX6_signAt.cls ≠ "java/lang/invoke/VarHandle" ∧ (parseMethodDescriptor yX6_signAt.desc).map (fun d => d.parameters.length) = some 1 := by decide +kernel
theorem im_X7_init : Cond.instanceMethod yX7_init ∈ WS := ws_i (mT2 (List.mem_of_getElem? (i := 60) (by decide +kernel))) (by decide +kernel)
theorem co_X7_init : Cond.code yX7_init cX7_init 2 none ∈ WS := ws_i (mT2 (List.mem_of_getElem? (i := 61) (by decide +kernel))) (by decide +kernel)
theorem yo_X7_init : yX7_init.cls ≠ "java/lang/invoke/MethodHandle" ∧ yX7_init.cls ≠ "java/lang/invoke/VarHandle" ∧ (parseMethodDescriptor yX7_init.desc).map (fun d => d.parameters.length) = some 1 := by decide +kernel
theorem im_X7_isBelow : Cond.instanceMethod yX7_isBelow ∈ WS := ws_i (mT4 (List.mem_of_getElem? (i := 113) (by decide +kernel))) (by decide +kernel)
theorem se_X7_isBelow : Cond.selects RX7 yX7_isBelow yX7_isBelow ∈ WS := ws_i (mS2 (q := (yX7_isBelow, 7)) (List.mem_of_getElem? (i := 13) (by decide +kernel))) (by decide +kernel)
theorem co_X7_isBelow : Cond.code yX7_isBelow cX7_isBelow 4 (some .boolean) ∈ WS := ws_i (mT4 (List.mem_of_getElem? (i := 114) (by decide +kernel))) (by decide +kernel)
theorem yo_X7_isBelow : yX7_isBelow.cls ≠ "java/lang/invoke/MethodHandle" ∧ yX7_isBelow.cls ≠ "java/lang/invoke/VarHandle" ∧ (parseMethodDescriptor yX7_isBelow.desc).map (fun d => d.parameters.length) = some 3 := by decide +kernel
theorem im_X7_isNearer : Cond.instanceMethod yX7_isNearer ∈ WS := ws_i (mT4 (List.mem_of_getElem? (i := 125) (by decide +kernel))) (by decide +kernel)
theorem se_X7_isNearer : Cond.selects RX7 yX7_isNearer yX7_isNearer ∈ WS := ws_i (mS3 (q := (yX7_isNearer, 7)) (List.mem_of_getElem? (i := 0) (by decide +kernel))) (by decide +kernel)
theorem co_X7_isNearer : Cond.code yX7_isNearer cX7_isNearer 4 (some .boolean) ∈ WS := ws_i (mT4 (List.mem_of_getElem? (i := 126) (by decide +kernel))) (by decide +kernel)
theorem yo_X7_isNearer : yX7_isNearer.cls ≠ "java/lang/invoke/MethodHandle" ∧ yX7_isNearer.cls ≠ "java/lang/invoke/VarHandle" ∧ (parseMethodDescriptor yX7_isNearer.desc).map (fun d => d.parameters.length) = some 2 := by decide +kernel
theorem im_X7_refresh : Cond.instanceMethod yX7_refresh ∈ WS := ws_i (mT4 (List.mem_of_getElem? (i := 103) (by decide +kernel))) (by decide +kernel)
theorem se_X7_refresh : Cond.selects RX7 yX7_refresh yX7_refresh ∈ WS := ws_i (mT4 (List.mem_of_getElem? (i := 104) (by decide +kernel))) (by decide +kernel)
theorem co_X7_refresh : Cond.code yX7_refresh cX7_refresh 3 none ∈ WS := ws_i (mT4 (List.mem_of_getElem? (i := 105) (by decide +kernel))) (by decide +kernel)
theorem yo_X7_refresh : yX7_refresh.cls ≠ "java/lang/invoke/MethodHandle" ∧ yX7_refresh.cls ≠ "java/lang/invoke/VarHandle" ∧ (parseMethodDescriptor yX7_refresh.desc).map (fun d => d.parameters.length) = some 0 := by decide +kernel
theorem im_X7_settleAt : Cond.instanceMethod yX7_settleAt ∈ WS := ws_i (mT4 (List.mem_of_getElem? (i := 109) (by decide +kernel))) (by decide +kernel)
theorem se_X7_settleAt : Cond.selects RX7 yX7_settleAt yX7_settleAt ∈ WS := ws_i (mS2 (q := (yX7_settleAt, 7)) (List.mem_of_getElem? (i := 12) (by decide +kernel))) (by decide +kernel)
theorem co_X7_settleAt : Cond.code yX7_settleAt cX7_settleAt 4 none ∈ WS := ws_i (mT4 (List.mem_of_getElem? (i := 110) (by decide +kernel))) (by decide +kernel)
theorem yo_X7_settleAt : yX7_settleAt.cls ≠ "java/lang/invoke/MethodHandle" ∧ yX7_settleAt.cls ≠ "java/lang/invoke/VarHandle" ∧ (parseMethodDescriptor yX7_settleAt.desc).map (fun d => d.parameters.length) = some 2 := by decide +kernel
theorem im_X7_squareBottom : Cond.instanceMethod yX7_squareBottom ∈ WS := ws_i (mT4 (List.mem_of_getElem? (i := 121) (by decide +kernel))) (by decide +kernel)
theorem se_X7_squareBottom : Cond.selects RX7 yX7_squareBottom yX7_squareBottom ∈ WS := ws_i (mS2 (q := (yX7_squareBottom, 7)) (List.mem_of_getElem? (i := 15) (by decide +kernel))) (by decide +kernel)
theorem co_X7_squareBottom : Cond.code yX7_squareBottom cX7_squareBottom 2 (some .long) ∈ WS := ws_i (mT4 (List.mem_of_getElem? (i := 122) (by decide +kernel))) (by decide +kernel)
theorem yo_X7_squareBottom : yX7_squareBottom.cls ≠ "java/lang/invoke/MethodHandle" ∧ yX7_squareBottom.cls ≠ "java/lang/invoke/VarHandle" ∧ (parseMethodDescriptor yX7_squareBottom.desc).map (fun d => d.parameters.length) = some 1 := by decide +kernel
theorem im_X7_squareTop : Cond.instanceMethod yX7_squareTop ∈ WS := ws_i (mT4 (List.mem_of_getElem? (i := 117) (by decide +kernel))) (by decide +kernel)
theorem se_X7_squareTop : Cond.selects RX7 yX7_squareTop yX7_squareTop ∈ WS := ws_i (mS2 (q := (yX7_squareTop, 7)) (List.mem_of_getElem? (i := 14) (by decide +kernel))) (by decide +kernel)
theorem co_X7_squareTop : Cond.code yX7_squareTop cX7_squareTop 6 (some .long) ∈ WS := ws_i (mT4 (List.mem_of_getElem? (i := 118) (by decide +kernel))) (by decide +kernel)
theorem yo_X7_squareTop : yX7_squareTop.cls ≠ "java/lang/invoke/MethodHandle" ∧ yX7_squareTop.cls ≠ "java/lang/invoke/VarHandle" ∧ (parseMethodDescriptor yX7_squareTop.desc).map (fun d => d.parameters.length) = some 3 := by decide +kernel
theorem im_X8_addPlace : Cond.instanceMethod yX8_addPlace ∈ WS := ws_i (mT3 (List.mem_of_getElem? (i := 116) (by decide +kernel))) (by decide +kernel)
theorem se_X8_addPlace : Cond.selects RX8 yX8_addPlace yX8_addPlace ∈ WS := ws_i (mT3 (List.mem_of_getElem? (i := 117) (by decide +kernel))) (by decide +kernel)
theorem co_X8_addPlace : Cond.code yX8_addPlace cX8_addPlace 3 none ∈ WS := ws_i (mT3 (List.mem_of_getElem? (i := 118) (by decide +kernel))) (by decide +kernel)
theorem yo_X8_addPlace : yX8_addPlace.cls ≠ "java/lang/invoke/MethodHandle" ∧ yX8_addPlace.cls ≠ "java/lang/invoke/VarHandle" ∧ (parseMethodDescriptor yX8_addPlace.desc).map (fun d => d.parameters.length) = some 2 := by decide +kernel
theorem im_X8_addVoter : Cond.instanceMethod yX8_addVoter ∈ WS := ws_i (mT3 (List.mem_of_getElem? (i := 107) (by decide +kernel))) (by decide +kernel)
theorem se_X8_addVoter : Cond.selects RX8 yX8_addVoter yX8_addVoter ∈ WS := ws_i (mT3 (List.mem_of_getElem? (i := 108) (by decide +kernel))) (by decide +kernel)
theorem co_X8_addVoter : Cond.code yX8_addVoter cX8_addVoter 7 none ∈ WS := ws_i (mT3 (List.mem_of_getElem? (i := 109) (by decide +kernel))) (by decide +kernel)
theorem yo_X8_addVoter : yX8_addVoter.cls ≠ "java/lang/invoke/MethodHandle" ∧ yX8_addVoter.cls ≠ "java/lang/invoke/VarHandle" ∧ (parseMethodDescriptor yX8_addVoter.desc).map (fun d => d.parameters.length) = some 6 := by decide +kernel
theorem im_X8_clear : Cond.instanceMethod yX8_clear ∈ WS := ws_i (mT3 (List.mem_of_getElem? (i := 0) (by decide +kernel))) (by decide +kernel)
theorem se_X8_clear : Cond.selects RX8 yX8_clear yX8_clear ∈ WS := ws_i (mT3 (List.mem_of_getElem? (i := 1) (by decide +kernel))) (by decide +kernel)
theorem co_X8_clear : Cond.code yX8_clear cX8_clear 1 none ∈ WS := ws_i (mT3 (List.mem_of_getElem? (i := 2) (by decide +kernel))) (by decide +kernel)
theorem yo_X8_clear : yX8_clear.cls ≠ "java/lang/invoke/MethodHandle" ∧ yX8_clear.cls ≠ "java/lang/invoke/VarHandle" ∧ (parseMethodDescriptor yX8_clear.desc).map (fun d => d.parameters.length) = some 0 := by decide +kernel
theorem im_X8_hasPlace : Cond.instanceMethod yX8_hasPlace ∈ WS := ws_i (mT3 (List.mem_of_getElem? (i := 155) (by decide +kernel))) (by decide +kernel)
theorem se_X8_hasPlace : Cond.selects RX8 yX8_hasPlace yX8_hasPlace ∈ WS := ws_i (mT3 (List.mem_of_getElem? (i := 156) (by decide +kernel))) (by decide +kernel)
theorem co_X8_hasPlace : Cond.code yX8_hasPlace cX8_hasPlace 2 (some .boolean) ∈ WS := ws_i (mT3 (List.mem_of_getElem? (i := 157) (by decide +kernel))) (by decide +kernel)
theorem yo_X8_hasPlace : yX8_hasPlace.cls ≠ "java/lang/invoke/MethodHandle" ∧ yX8_hasPlace.cls ≠ "java/lang/invoke/VarHandle" ∧ (parseMethodDescriptor yX8_hasPlace.desc).map (fun d => d.parameters.length) = some 1 := by decide +kernel
theorem im_X8_hasVoter : Cond.instanceMethod yX8_hasVoter ∈ WS := ws_i (mT3 (List.mem_of_getElem? (i := 147) (by decide +kernel))) (by decide +kernel)
theorem se_X8_hasVoter : Cond.selects RX8 yX8_hasVoter yX8_hasVoter ∈ WS := ws_i (mT3 (List.mem_of_getElem? (i := 148) (by decide +kernel))) (by decide +kernel)
theorem co_X8_hasVoter : Cond.code yX8_hasVoter cX8_hasVoter 2 (some .boolean) ∈ WS := ws_i (mT3 (List.mem_of_getElem? (i := 149) (by decide +kernel))) (by decide +kernel)
theorem yo_X8_hasVoter : yX8_hasVoter.cls ≠ "java/lang/invoke/MethodHandle" ∧ yX8_hasVoter.cls ≠ "java/lang/invoke/VarHandle" ∧ (parseMethodDescriptor yX8_hasVoter.desc).map (fun d => d.parameters.length) = some 1 := by decide +kernel
theorem im_X8_init : Cond.instanceMethod yX8_init ∈ WS := ws_i (mT1 (List.mem_of_getElem? (i := 32) (by decide +kernel))) (by decide +kernel)
theorem co_X8_init : Cond.code yX8_init cX8_init 1 none ∈ WS := ws_i (mT1 (List.mem_of_getElem? (i := 33) (by decide +kernel))) (by decide +kernel)
theorem yo_X8_init : yX8_init.cls ≠ "java/lang/invoke/MethodHandle" ∧ yX8_init.cls ≠ "java/lang/invoke/VarHandle" ∧ (parseMethodDescriptor yX8_init.desc).map (fun d => d.parameters.length) = some 0 := by decide +kernel
theorem im_X8_isAt : Cond.instanceMethod yX8_isAt ∈ WS := ws_i (mT5 (List.mem_of_getElem? (i := 180) (by decide +kernel))) (by decide +kernel)
theorem se_X8_isAt : Cond.selects RX8 yX8_isAt yX8_isAt ∈ WS := ws_i (mT5 (List.mem_of_getElem? (i := 181) (by decide +kernel))) (by decide +kernel)
theorem co_X8_isAt : Cond.code yX8_isAt cX8_isAt 4 (some .boolean) ∈ WS := ws_i (mT5 (List.mem_of_getElem? (i := 182) (by decide +kernel))) (by decide +kernel)
theorem yo_X8_isAt : yX8_isAt.cls ≠ "java/lang/invoke/MethodHandle" ∧ yX8_isAt.cls ≠ "java/lang/invoke/VarHandle" ∧ (parseMethodDescriptor yX8_isAt.desc).map (fun d => d.parameters.length) = some 3 := by decide +kernel
theorem im_X8_isEnough : Cond.instanceMethod yX8_isEnough ∈ WS := ws_i (mT3 (List.mem_of_getElem? (i := 209) (by decide +kernel))) (by decide +kernel)
theorem se_X8_isEnough : Cond.selects RX8 yX8_isEnough yX8_isEnough ∈ WS := ws_i (mT3 (List.mem_of_getElem? (i := 210) (by decide +kernel))) (by decide +kernel)
theorem co_X8_isEnough : Cond.code yX8_isEnough cX8_isEnough 3 (some .boolean) ∈ WS := ws_i (mT3 (List.mem_of_getElem? (i := 211) (by decide +kernel))) (by decide +kernel)
theorem yo_X8_isEnough : yX8_isEnough.cls ≠ "java/lang/invoke/MethodHandle" ∧ yX8_isEnough.cls ≠ "java/lang/invoke/VarHandle" ∧ (parseMethodDescriptor yX8_isEnough.desc).map (fun d => d.parameters.length) = some 2 := by decide +kernel
theorem im_X8_isMoreThanHalf : Cond.instanceMethod yX8_isMoreThanHalf ∈ WS := ws_i (mT4 (List.mem_of_getElem? (i := 20) (by decide +kernel))) (by decide +kernel)
theorem se_X8_isMoreThanHalf : Cond.selects RX8 yX8_isMoreThanHalf yX8_isMoreThanHalf ∈ WS := ws_i (mT4 (List.mem_of_getElem? (i := 21) (by decide +kernel))) (by decide +kernel)
theorem co_X8_isMoreThanHalf : Cond.code yX8_isMoreThanHalf cX8_isMoreThanHalf 2 (some .boolean) ∈ WS := ws_i (mT4 (List.mem_of_getElem? (i := 22) (by decide +kernel))) (by decide +kernel)
theorem yo_X8_isMoreThanHalf : yX8_isMoreThanHalf.cls ≠ "java/lang/invoke/MethodHandle" ∧ yX8_isMoreThanHalf.cls ≠ "java/lang/invoke/VarHandle" ∧ (parseMethodDescriptor yX8_isMoreThanHalf.desc).map (fun d => d.parameters.length) = some 1 := by decide +kernel
theorem im_X8_put : Cond.instanceMethod yX8_put ∈ WS := ws_i (mT5 (List.mem_of_getElem? (i := 192) (by decide +kernel))) (by decide +kernel)
theorem se_X8_put : Cond.selects RX8 yX8_put yX8_put ∈ WS := ws_i (mT5 (List.mem_of_getElem? (i := 193) (by decide +kernel))) (by decide +kernel)
theorem co_X8_put : Cond.code yX8_put cX8_put 4 none ∈ WS := ws_i (mT5 (List.mem_of_getElem? (i := 194) (by decide +kernel))) (by decide +kernel)
theorem yo_X8_put : yX8_put.cls ≠ "java/lang/invoke/MethodHandle" ∧ yX8_put.cls ≠ "java/lang/invoke/VarHandle" ∧ (parseMethodDescriptor yX8_put.desc).map (fun d => d.parameters.length) = some 3 := by decide +kernel
theorem im_X8_takeFrom : Cond.instanceMethod yX8_takeFrom ∈ WS := ws_i (mT3 (List.mem_of_getElem? (i := 136) (by decide +kernel))) (by decide +kernel)
theorem se_X8_takeFrom : Cond.selects RX8 yX8_takeFrom yX8_takeFrom ∈ WS := ws_i (mT3 (List.mem_of_getElem? (i := 137) (by decide +kernel))) (by decide +kernel)
theorem co_X8_takeFrom : Cond.code yX8_takeFrom cX8_takeFrom 3 none ∈ WS := ws_i (mT3 (List.mem_of_getElem? (i := 138) (by decide +kernel))) (by decide +kernel)
theorem yo_X8_takeFrom : yX8_takeFrom.cls ≠ "java/lang/invoke/MethodHandle" ∧ yX8_takeFrom.cls ≠ "java/lang/invoke/VarHandle" ∧ (parseMethodDescriptor yX8_takeFrom.desc).map (fun d => d.parameters.length) = some 1 := by decide +kernel
theorem im_X8_wayOver : Cond.instanceMethod yX8_wayOver ∈ WS := ws_i (mT3 (List.mem_of_getElem? (i := 178) (by decide +kernel))) (by decide +kernel)
theorem se_X8_wayOver : Cond.selects RX8 yX8_wayOver yX8_wayOver ∈ WS := ws_i (mT3 (List.mem_of_getElem? (i := 179) (by decide +kernel))) (by decide +kernel)
theorem co_X8_wayOver : Cond.code yX8_wayOver cX8_wayOver 6 (some .int) ∈ WS := ws_i (mT3 (List.mem_of_getElem? (i := 180) (by decide +kernel))) (by decide +kernel)
theorem yo_X8_wayOver : yX8_wayOver.cls ≠ "java/lang/invoke/MethodHandle" ∧ yX8_wayOver.cls ≠ "java/lang/invoke/VarHandle" ∧ (parseMethodDescriptor yX8_wayOver.desc).map (fun d => d.parameters.length) = some 3 := by decide +kernel
theorem im_X8_wayTo : Cond.instanceMethod yX8_wayTo ∈ WS := ws_i (mT3 (List.mem_of_getElem? (i := 171) (by decide +kernel))) (by decide +kernel)
theorem se_X8_wayTo : Cond.selects RX8 yX8_wayTo yX8_wayTo ∈ WS := ws_i (mT3 (List.mem_of_getElem? (i := 172) (by decide +kernel))) (by decide +kernel)
theorem co_X8_wayTo : Cond.code yX8_wayTo cX8_wayTo 4 (some .int) ∈ WS := ws_i (mT3 (List.mem_of_getElem? (i := 173) (by decide +kernel))) (by decide +kernel)
theorem yo_X8_wayTo : yX8_wayTo.cls ≠ "java/lang/invoke/MethodHandle" ∧ yX8_wayTo.cls ≠ "java/lang/invoke/VarHandle" ∧ (parseMethodDescriptor yX8_wayTo.desc).map (fun d => d.parameters.length) = some 3 := by decide +kernel
theorem im_X8_weightFor : Cond.instanceMethod yX8_weightFor ∈ WS := ws_i (mT3 (List.mem_of_getElem? (i := 232) (by decide +kernel))) (by decide +kernel)
theorem se_X8_weightFor : Cond.selects RX8 yX8_weightFor yX8_weightFor ∈ WS := ws_i (mT3 (List.mem_of_getElem? (i := 233) (by decide +kernel))) (by decide +kernel)
theorem co_X8_weightFor : Cond.code yX8_weightFor cX8_weightFor 7 (some .int) ∈ WS := ws_i (mT3 (List.mem_of_getElem? (i := 234) (by decide +kernel))) (by decide +kernel)
theorem yo_X8_weightFor : yX8_weightFor.cls ≠ "java/lang/invoke/MethodHandle" ∧ yX8_weightFor.cls ≠ "java/lang/invoke/VarHandle" ∧ (parseMethodDescriptor yX8_weightFor.desc).map (fun d => d.parameters.length) = some 2 := by decide +kernel
theorem im_X9_fewestJoined : Cond.instanceMethod yX9_fewestJoined ∈ WS := ws_i (mT5 (List.mem_of_getElem? (i := 149) (by decide +kernel))) (by decide +kernel)
theorem se_X9_fewestJoined : Cond.selects RX9 yX9_fewestJoined yX9_fewestJoined ∈ WS := ws_i (mT5 (List.mem_of_getElem? (i := 150) (by decide +kernel))) (by decide +kernel)
theorem co_X9_fewestJoined : Cond.code yX9_fewestJoined cX9_fewestJoined 5 (some .int) ∈ WS := ws_i (mT5 (List.mem_of_getElem? (i := 151) (by decide +kernel))) (by decide +kernel)
theorem yo_X9_fewestJoined : yX9_fewestJoined.cls ≠ "java/lang/invoke/MethodHandle" ∧ yX9_fewestJoined.cls ≠ "java/lang/invoke/VarHandle" ∧ (parseMethodDescriptor yX9_fewestJoined.desc).map (fun d => d.parameters.length) = some 1 := by decide +kernel
theorem im_X9_fillJoining : Cond.instanceMethod yX9_fillJoining ∈ WS := ws_i (mT5 (List.mem_of_getElem? (i := 155) (by decide +kernel))) (by decide +kernel)
theorem se_X9_fillJoining : Cond.selects RX9 yX9_fillJoining yX9_fillJoining ∈ WS := ws_i (mS4 (q := (yX9_fillJoining, 11)) (List.mem_of_getElem? (i := 7) (by decide +kernel))) (by decide +kernel)
theorem co_X9_fillJoining : Cond.code yX9_fillJoining cX9_fillJoining 6 none ∈ WS := ws_i (mT5 (List.mem_of_getElem? (i := 156) (by decide +kernel))) (by decide +kernel)
theorem yo_X9_fillJoining : yX9_fillJoining.cls ≠ "java/lang/invoke/MethodHandle" ∧ yX9_fillJoining.cls ≠ "java/lang/invoke/VarHandle" ∧ (parseMethodDescriptor yX9_fillJoining.desc).map (fun d => d.parameters.length) = some 2 := by decide +kernel
theorem im_X9_fillWays : Cond.instanceMethod yX9_fillWays ∈ WS := ws_i (mT5 (List.mem_of_getElem? (i := 122) (by decide +kernel))) (by decide +kernel)
theorem se_X9_fillWays : Cond.selects RX9 yX9_fillWays yX9_fillWays ∈ WS := ws_i (mS4 (q := (yX9_fillWays, 11)) (List.mem_of_getElem? (i := 2) (by decide +kernel))) (by decide +kernel)
theorem co_X9_fillWays : Cond.code yX9_fillWays cX9_fillWays 6 none ∈ WS := ws_i (mT5 (List.mem_of_getElem? (i := 123) (by decide +kernel))) (by decide +kernel)
theorem yo_X9_fillWays : yX9_fillWays.cls ≠ "java/lang/invoke/MethodHandle" ∧ yX9_fillWays.cls ≠ "java/lang/invoke/VarHandle" ∧ (parseMethodDescriptor yX9_fillWays.desc).map (fun d => d.parameters.length) = some 4 := by decide +kernel
theorem im_X9_findMove : Cond.instanceMethod yX9_findMove ∈ WS := ws_i (mT5 (List.mem_of_getElem? (i := 117) (by decide +kernel))) (by decide +kernel)
theorem se_X9_findMove : Cond.selects RX9 yX9_findMove yX9_findMove ∈ WS := ws_i (mT5 (List.mem_of_getElem? (i := 118) (by decide +kernel))) (by decide +kernel)
theorem co_X9_findMove : Cond.code yX9_findMove cX9_findMove 3 none ∈ WS := ws_i (mT5 (List.mem_of_getElem? (i := 119) (by decide +kernel))) (by decide +kernel)
theorem yo_X9_findMove : yX9_findMove.cls ≠ "java/lang/invoke/MethodHandle" ∧ yX9_findMove.cls ≠ "java/lang/invoke/VarHandle" ∧ (parseMethodDescriptor yX9_findMove.desc).map (fun d => d.parameters.length) = some 0 := by decide +kernel
theorem im_X9_forBehind : Cond.instanceMethod yX9_forBehind ∈ WS := ws_i (mT5 (List.mem_of_getElem? (i := 140) (by decide +kernel))) (by decide +kernel)
theorem se_X9_forBehind : Cond.selects RX9 yX9_forBehind yX9_forBehind ∈ WS := ws_i (mS4 (q := (yX9_forBehind, 11)) (List.mem_of_getElem? (i := 6) (by decide +kernel))) (by decide +kernel)
theorem co_X9_forBehind : Cond.code yX9_forBehind cX9_forBehind 5 (some .int) ∈ WS := ws_i (mT5 (List.mem_of_getElem? (i := 141) (by decide +kernel))) (by decide +kernel)
theorem yo_X9_forBehind : yX9_forBehind.cls ≠ "java/lang/invoke/MethodHandle" ∧ yX9_forBehind.cls ≠ "java/lang/invoke/VarHandle" ∧ (parseMethodDescriptor yX9_forBehind.desc).map (fun d => d.parameters.length) = some 3 := by decide +kernel
theorem im_X9_init : Cond.instanceMethod yX9_init ∈ WS := ws_i (mT2 (List.mem_of_getElem? (i := 134) (by decide +kernel))) (by decide +kernel)
theorem co_X9_init : Cond.code yX9_init cX9_init 2 none ∈ WS := ws_i (mT2 (List.mem_of_getElem? (i := 135) (by decide +kernel))) (by decide +kernel)
theorem yo_X9_init : yX9_init.cls ≠ "java/lang/invoke/MethodHandle" ∧ yX9_init.cls ≠ "java/lang/invoke/VarHandle" ∧ (parseMethodDescriptor yX9_init.desc).map (fun d => d.parameters.length) = some 1 := by decide +kernel
theorem im_X9_isPeaceBehind : Cond.instanceMethod yX9_isPeaceBehind ∈ WS := ws_i (mT5 (List.mem_of_getElem? (i := 136) (by decide +kernel))) (by decide +kernel)
theorem se_X9_isPeaceBehind : Cond.selects RX9 yX9_isPeaceBehind yX9_isPeaceBehind ∈ WS := ws_i (mS4 (q := (yX9_isPeaceBehind, 11)) (List.mem_of_getElem? (i := 5) (by decide +kernel))) (by decide +kernel)
theorem co_X9_isPeaceBehind : Cond.code yX9_isPeaceBehind cX9_isPeaceBehind 5 (some .boolean) ∈ WS := ws_i (mT5 (List.mem_of_getElem? (i := 137) (by decide +kernel))) (by decide +kernel)
theorem yo_X9_isPeaceBehind : yX9_isPeaceBehind.cls ≠ "java/lang/invoke/MethodHandle" ∧ yX9_isPeaceBehind.cls ≠ "java/lang/invoke/VarHandle" ∧ (parseMethodDescriptor yX9_isPeaceBehind.desc).map (fun d => d.parameters.length) = some 1 := by decide +kernel
theorem im_X9_stancesOf : Cond.instanceMethod yX9_stancesOf ∈ WS := ws_i (mT5 (List.mem_of_getElem? (i := 172) (by decide +kernel))) (by decide +kernel)
theorem se_X9_stancesOf : Cond.selects RX9 yX9_stancesOf yX9_stancesOf ∈ WS := ws_i (mS4 (q := (yX9_stancesOf, 11)) (List.mem_of_getElem? (i := 9) (by decide +kernel))) (by decide +kernel)
theorem co_X9_stancesOf : Cond.code yX9_stancesOf cX9_stancesOf 12 (some .int) ∈ WS := ws_i (mT5 (List.mem_of_getElem? (i := 173) (by decide +kernel))) (by decide +kernel)
theorem yo_X9_stancesOf : yX9_stancesOf.cls ≠ "java/lang/invoke/MethodHandle" ∧ yX9_stancesOf.cls ≠ "java/lang/invoke/VarHandle" ∧ (parseMethodDescriptor yX9_stancesOf.desc).map (fun d => d.parameters.length) = some 4 := by decide +kernel
theorem im_X9_standsJoined : Cond.instanceMethod yX9_standsJoined ∈ WS := ws_i (mT5 (List.mem_of_getElem? (i := 160) (by decide +kernel))) (by decide +kernel)
theorem se_X9_standsJoined : Cond.selects RX9 yX9_standsJoined yX9_standsJoined ∈ WS := ws_i (mS4 (q := (yX9_standsJoined, 11)) (List.mem_of_getElem? (i := 8) (by decide +kernel))) (by decide +kernel)
theorem co_X9_standsJoined : Cond.code yX9_standsJoined cX9_standsJoined 8 (some .boolean) ∈ WS := ws_i (mT5 (List.mem_of_getElem? (i := 161) (by decide +kernel))) (by decide +kernel)
theorem yo_X9_standsJoined : yX9_standsJoined.cls ≠ "java/lang/invoke/MethodHandle" ∧ yX9_standsJoined.cls ≠ "java/lang/invoke/VarHandle" ∧ (parseMethodDescriptor yX9_standsJoined.desc).map (fun d => d.parameters.length) = some 3 := by decide +kernel
theorem im_X9_tryMove : Cond.instanceMethod yX9_tryMove ∈ WS := ws_i (mT5 (List.mem_of_getElem? (i := 132) (by decide +kernel))) (by decide +kernel)
theorem se_X9_tryMove : Cond.selects RX9 yX9_tryMove yX9_tryMove ∈ WS := ws_i (mS4 (q := (yX9_tryMove, 11)) (List.mem_of_getElem? (i := 4) (by decide +kernel))) (by decide +kernel)
theorem co_X9_tryMove : Cond.code yX9_tryMove cX9_tryMove 6 none ∈ WS := ws_i (mT5 (List.mem_of_getElem? (i := 133) (by decide +kernel))) (by decide +kernel)
theorem yo_X9_tryMove : yX9_tryMove.cls ≠ "java/lang/invoke/MethodHandle" ∧ yX9_tryMove.cls ≠ "java/lang/invoke/VarHandle" ∧ (parseMethodDescriptor yX9_tryMove.desc).map (fun d => d.parameters.length) = some 2 := by decide +kernel
theorem im_X9_verdict : Cond.instanceMethod yX9_verdict ∈ WS := ws_i (mT5 (List.mem_of_getElem? (i := 167) (by decide +kernel))) (by decide +kernel)
theorem se_X9_verdict : Cond.selects RX9 yX9_verdict yX9_verdict ∈ WS := ws_i (mT5 (List.mem_of_getElem? (i := 168) (by decide +kernel))) (by decide +kernel)
theorem co_X9_verdict : Cond.code yX9_verdict cX9_verdict 10 (some .int) ∈ WS := ws_i (mT5 (List.mem_of_getElem? (i := 169) (by decide +kernel))) (by decide +kernel)
theorem yo_X9_verdict : yX9_verdict.cls ≠ "java/lang/invoke/MethodHandle" ∧ yX9_verdict.cls ≠ "java/lang/invoke/VarHandle" ∧ (parseMethodDescriptor yX9_verdict.desc).map (fun d => d.parameters.length) = some 2 := by decide +kernel
theorem im_X9_wayFrom : Cond.instanceMethod yX9_wayFrom ∈ WS := ws_i (mT5 (List.mem_of_getElem? (i := 126) (by decide +kernel))) (by decide +kernel)
theorem se_X9_wayFrom : Cond.selects RX9 yX9_wayFrom yX9_wayFrom ∈ WS := ws_i (mS4 (q := (yX9_wayFrom, 11)) (List.mem_of_getElem? (i := 3) (by decide +kernel))) (by decide +kernel)
theorem co_X9_wayFrom : Cond.code yX9_wayFrom cX9_wayFrom 5 (some .int) ∈ WS := ws_i (mT5 (List.mem_of_getElem? (i := 127) (by decide +kernel))) (by decide +kernel)
theorem yo_X9_wayFrom : yX9_wayFrom.cls ≠ "java/lang/invoke/MethodHandle" ∧ yX9_wayFrom.cls ≠ "java/lang/invoke/VarHandle" ∧ (parseMethodDescriptor yX9_wayFrom.desc).map (fun d => d.parameters.length) = some 4 := by decide +kernel
theorem in_J0 : Cond.initialized RJ0 ∈ WS := ws_i (mT1 (List.mem_of_getElem? (i := 13) (by decide +kernel))) (by decide +kernel)
theorem in_J1 : Cond.initialized RJ1 ∈ WS := ws_i (mT1 (List.mem_of_getElem? (i := 14) (by decide +kernel))) (by decide +kernel)
theorem in_J13 : Cond.initialized RJ13 ∈ WS := ws_i (mT1 (List.mem_of_getElem? (i := 19) (by decide +kernel))) (by decide +kernel)
theorem in_J2 : Cond.initialized RJ2 ∈ WS := ws_i (mT1 (List.mem_of_getElem? (i := 16) (by decide +kernel))) (by decide +kernel)
theorem in_J3 : Cond.initialized RJ3 ∈ WS := ws_i (mT1 (List.mem_of_getElem? (i := 15) (by decide +kernel))) (by decide +kernel)
theorem in_J6 : Cond.initialized RJ6 ∈ WS := ws_i (mT1 (List.mem_of_getElem? (i := 18) (by decide +kernel))) (by decide +kernel)
theorem in_J7 : Cond.initialized RJ7 ∈ WS := ws_i (mT1 (List.mem_of_getElem? (i := 17) (by decide +kernel))) (by decide +kernel)
theorem in_J9 : Cond.initialized RJ9 ∈ WS := ws_i (mT1 (List.mem_of_getElem? (i := 12) (by decide +kernel))) (by decide +kernel)
theorem in_L : Cond.initialized RL ∈ WS := ws_i (mT1 (List.mem_of_getElem? (i := 0) (by decide +kernel))) (by decide +kernel)
theorem in_X0 : Cond.initialized RX0 ∈ WS := ws_i (mT1 (List.mem_of_getElem? (i := 4) (by decide +kernel))) (by decide +kernel)
theorem in_X1 : Cond.initialized RX1 ∈ WS := ws_i (mT1 (List.mem_of_getElem? (i := 20) (by decide +kernel))) (by decide +kernel)
theorem in_X10 : Cond.initialized RX10 ∈ WS := ws_i (mT1 (List.mem_of_getElem? (i := 1) (by decide +kernel))) (by decide +kernel)
theorem in_X11 : Cond.initialized RX11 ∈ WS := ws_i (mT1 (List.mem_of_getElem? (i := 11) (by decide +kernel))) (by decide +kernel)
theorem in_X2 : Cond.initialized RX2 ∈ WS := ws_i (mT1 (List.mem_of_getElem? (i := 5) (by decide +kernel))) (by decide +kernel)
theorem in_X3 : Cond.initialized RX3 ∈ WS := ws_i (mT1 (List.mem_of_getElem? (i := 8) (by decide +kernel))) (by decide +kernel)
theorem in_X4 : Cond.initialized RX4 ∈ WS := ws_i (mT1 (List.mem_of_getElem? (i := 6) (by decide +kernel))) (by decide +kernel)
theorem in_X5 : Cond.initialized RX5 ∈ WS := ws_i (mT1 (List.mem_of_getElem? (i := 10) (by decide +kernel))) (by decide +kernel)
theorem in_X6 : Cond.initialized RX6 ∈ WS := ws_i (mT1 (List.mem_of_getElem? (i := 3) (by decide +kernel))) (by decide +kernel)
theorem in_X7 : Cond.initialized RX7 ∈ WS := ws_i (mT1 (List.mem_of_getElem? (i := 7) (by decide +kernel))) (by decide +kernel)
theorem in_X8 : Cond.initialized RX8 ∈ WS := ws_i (mT1 (List.mem_of_getElem? (i := 2) (by decide +kernel))) (by decide +kernel)
theorem in_X9 : Cond.initialized RX9 ∈ WS := ws_i (mT1 (List.mem_of_getElem? (i := 9) (by decide +kernel))) (by decide +kernel)
theorem cl_L_7 : Cond.classLink RL 7 RX10 ∈ WS := ws_i (mT1 (List.mem_of_getElem? (i := 21) (by decide +kernel))) (by decide +kernel)
theorem cl_L_10 : Cond.classLink RL 10 RX11 ∈ WS := ws_i (mT5 (List.mem_of_getElem? (i := 216) (by decide +kernel))) (by decide +kernel)
theorem cl_X10_9 : Cond.classLink RX10 9 RX8 ∈ WS := ws_i (mT1 (List.mem_of_getElem? (i := 29) (by decide +kernel))) (by decide +kernel)
theorem cl_X10_16 : Cond.classLink RX10 16 RX6 ∈ WS := ws_i (mT1 (List.mem_of_getElem? (i := 138) (by decide +kernel))) (by decide +kernel)
theorem cl_X10_23 : Cond.classLink RX10 23 RX0 ∈ WS := ws_i (mT1 (List.mem_of_getElem? (i := 183) (by decide +kernel))) (by decide +kernel)
theorem cl_X10_32 : Cond.classLink RX10 32 RX2 ∈ WS := ws_i (mT1 (List.mem_of_getElem? (i := 222) (by decide +kernel))) (by decide +kernel)
theorem cl_X10_39 : Cond.classLink RX10 39 RX4 ∈ WS := ws_i (mT2 (List.mem_of_getElem? (i := 20) (by decide +kernel))) (by decide +kernel)
theorem cl_X10_48 : Cond.classLink RX10 48 RX7 ∈ WS := ws_i (mT2 (List.mem_of_getElem? (i := 57) (by decide +kernel))) (by decide +kernel)
theorem cl_X10_57 : Cond.classLink RX10 57 RX3 ∈ WS := ws_i (mT2 (List.mem_of_getElem? (i := 89) (by decide +kernel))) (by decide +kernel)
theorem cl_X10_66 : Cond.classLink RX10 66 RX9 ∈ WS := ws_i (mT2 (List.mem_of_getElem? (i := 131) (by decide +kernel))) (by decide +kernel)
theorem cl_X10_73 : Cond.classLink RX10 73 RX5 ∈ WS := ws_i (mT2 (List.mem_of_getElem? (i := 174) (by decide +kernel))) (by decide +kernel)
theorem cl_X10_209 : Cond.classLink RX10 209 RX1 ∈ WS := ws_i (mT4 (List.mem_of_getElem? (i := 136) (by decide +kernel))) (by decide +kernel)
theorem cl_X11_13 : Cond.classLink RX11 13 "[[I" ∈ WS := ws_i (mT5 (List.mem_of_getElem? (i := 222) (by decide +kernel))) (by decide +kernel)
theorem cl_X11_55 : Cond.classLink RX11 55 RJ0 ∈ WS := ws_i (mT5 (List.mem_of_getElem? (i := 224) (by decide +kernel))) (by decide +kernel)
theorem cl_X11_97 : Cond.classLink RX11 97 "[[J" ∈ WS := ws_i (mT5 (List.mem_of_getElem? (i := 230) (by decide +kernel))) (by decide +kernel)
theorem cl_X6_15 : Cond.classLink RX6 15 RX8 ∈ WS := ws_i (mT1 (List.mem_of_getElem? (i := 144) (by decide +kernel))) (by decide +kernel)
theorem is_X0 : Cond.instantiable RX0 9 ∈ WS := ws_i (mT1 (List.mem_of_getElem? (i := 184) (by decide +kernel))) (by decide +kernel)
theorem is_X1 : Cond.instantiable RX1 11 ∈ WS := ws_i (mT4 (List.mem_of_getElem? (i := 137) (by decide +kernel))) (by decide +kernel)
theorem is_X2 : Cond.instantiable RX2 6 ∈ WS := ws_i (mT1 (List.mem_of_getElem? (i := 223) (by decide +kernel))) (by decide +kernel)
theorem is_X3 : Cond.instantiable RX3 10 ∈ WS := ws_i (mT2 (List.mem_of_getElem? (i := 90) (by decide +kernel))) (by decide +kernel)
theorem is_X4 : Cond.instantiable RX4 8 ∈ WS := ws_i (mT2 (List.mem_of_getElem? (i := 21) (by decide +kernel))) (by decide +kernel)
theorem is_X5 : Cond.instantiable RX5 2 ∈ WS := ws_i (mT2 (List.mem_of_getElem? (i := 175) (by decide +kernel))) (by decide +kernel)
theorem is_X6 : Cond.instantiable RX6 11 ∈ WS := ws_i (mT1 (List.mem_of_getElem? (i := 139) (by decide +kernel))) (by decide +kernel)
theorem is_X7 : Cond.instantiable RX7 7 ∈ WS := ws_i (mT2 (List.mem_of_getElem? (i := 58) (by decide +kernel))) (by decide +kernel)
theorem is_X8 : Cond.instantiable RX8 16 ∈ WS := ws_i (mT1 (List.mem_of_getElem? (i := 30) (by decide +kernel))) (by decide +kernel)
theorem is_X9 : Cond.instantiable RX9 11 ∈ WS := ws_i (mT2 (List.mem_of_getElem? (i := 132) (by decide +kernel))) (by decide +kernel)
theorem is_X10 : Cond.instantiable RX10 10 ∈ WS := ws_i (mT1 (List.mem_of_getElem? (i := 22) (by decide +kernel))) (by decide +kernel)
theorem is_X11 : Cond.instantiable RX11 49 ∈ WS := ws_i (mT5 (List.mem_of_getElem? (i := 217) (by decide +kernel))) (by decide +kernel)
theorem ki_J6_264 : Cond.constant RJ6 264 (65536) ∈ WS := ws_i (mT5 (List.mem_of_getElem? (i := 64) (by decide +kernel))) (by decide +kernel)
theorem ki_J6_265 : Cond.constant RJ6 265 (1431655765) ∈ WS := ws_i (mT3 (List.mem_of_getElem? (i := 215) (by decide +kernel))) (by decide +kernel)
theorem ki_J6_266 : Cond.constant RJ6 266 (858993459) ∈ WS := ws_i (mT3 (List.mem_of_getElem? (i := 216) (by decide +kernel))) (by decide +kernel)
theorem ki_J6_267 : Cond.constant RJ6 267 (252645135) ∈ WS := ws_i (mT3 (List.mem_of_getElem? (i := 217) (by decide +kernel))) (by decide +kernel)
theorem ki_X10_169 : Cond.constant RX10 169 (-2147483648) ∈ WS := ws_i (mT4 (List.mem_of_getElem? (i := 34) (by decide +kernel))) (by decide +kernel)
theorem ki_X11_316 : Cond.constant RX11 316 (-2147483648) ∈ WS := ws_i (mT7 (List.mem_of_getElem? (i := 115) (by decide +kernel))) (by decide +kernel)
theorem kl_X11_240 : Cond.constantLong RX11 240 (99) ∈ WS := ws_i (mT7 (List.mem_of_getElem? (i := 21) (by decide +kernel))) (by decide +kernel)
theorem kl_X11_286 : Cond.constantLong RX11 286 (9999) ∈ WS := ws_i (mT7 (List.mem_of_getElem? (i := 71) (by decide +kernel))) (by decide +kernel)
theorem kl_X11_331 : Cond.constantLong RX11 331 (2) ∈ WS := ws_i (mT7 (List.mem_of_getElem? (i := 124) (by decide +kernel))) (by decide +kernel)
theorem kl_X11_343 : Cond.constantLong RX11 343 (3) ∈ WS := ws_i (mT7 (List.mem_of_getElem? (i := 133) (by decide +kernel))) (by decide +kernel)
theorem kl_X11_393 : Cond.constantLong RX11 393 (-1) ∈ WS := ws_i (mT7 (List.mem_of_getElem? (i := 198) (by decide +kernel))) (by decide +kernel)
theorem kl_X11_422 : Cond.constantLong RX11 422 (5) ∈ WS := ws_i (mT8 (List.mem_of_getElem? (i := 10) (by decide +kernel))) (by decide +kernel)
theorem kl_X11_430 : Cond.constantLong RX11 430 (8) ∈ WS := ws_i (mT8 (List.mem_of_getElem? (i := 35) (by decide +kernel))) (by decide +kernel)
theorem ac_int : Cond.arrayClass .int ∈ WS := ws_i (mT1 (List.mem_of_getElem? (i := 137) (by decide +kernel))) (by decide +kernel)
theorem ac_long : Cond.arrayClass .long ∈ WS := ws_i (mT2 (List.mem_of_getElem? (i := 56) (by decide +kernel))) (by decide +kernel)
theorem ac_byte : Cond.arrayClass .byte ∈ WS := ws_i (mT1 (List.mem_of_getElem? (i := 182) (by decide +kernel))) (by decide +kernel)
theorem ac_boolean : Cond.arrayClass .boolean ∈ WS := ws_i (mT4 (List.mem_of_getElem? (i := 179) (by decide +kernel))) (by decide +kernel)
theorem st_min : Cond.static Lib.Math.min.name ∈ WS := ws_i (mT3 (List.mem_of_getElem? (i := 16) (by decide +kernel))) (by decide +kernel)
theorem co_min : Cond.code Lib.Math.min.name Lib.Math.min.code 2 (some .int) ∈ WS := ws_i (mT3 (List.mem_of_getElem? (i := 17) (by decide +kernel))) (by decide +kernel)
theorem st_max : Cond.static Lib.Math.max.name ∈ WS := ws_i (mT3 (List.mem_of_getElem? (i := 182) (by decide +kernel))) (by decide +kernel)
theorem co_max : Cond.code Lib.Math.max.name Lib.Math.max.code 2 (some .int) ∈ WS := ws_i (mT3 (List.mem_of_getElem? (i := 183) (by decide +kernel))) (by decide +kernel)
theorem st_abs : Cond.static Lib.Math.abs.name ∈ WS := ws_i (mT3 (List.mem_of_getElem? (i := 175) (by decide +kernel))) (by decide +kernel)
theorem co_abs : Cond.code Lib.Math.abs.name Lib.Math.abs.code 1 (some .int) ∈ WS := ws_i (mT3 (List.mem_of_getElem? (i := 176) (by decide +kernel))) (by decide +kernel)
theorem st_absl : Cond.static Lib.MathLoose.abs_long.x ∈ WS := ws_i (mT4 (List.mem_of_getElem? (i := 13) (by decide +kernel))) (by decide +kernel)
theorem co_absl : Cond.code Lib.MathLoose.abs_long.x Lib.MathLoose.abs_long.code 2 (some .long) ∈ WS := ws_i (mT4 (List.mem_of_getElem? (i := 14) (by decide +kernel))) (by decide +kernel)
theorem im_obj : Cond.instanceMethod objectInit ∈ WS := ws_i (mT1 (List.mem_of_getElem? (i := 27) (by decide +kernel))) (by decide +kernel)
theorem co_obj : Cond.code objectInit ⟨#[0xb1]⟩ 1 none ∈ WS := ws_i (mT1 (List.mem_of_getElem? (i := 28) (by decide +kernel))) (by decide +kernel)
theorem la_X0_0 : u_lay RX0 TX0 0 ∈ WS := ws_i (mT1 (List.mem_of_getElem? (i := 203) (by decide +kernel))) (by decide +kernel)
theorem la_X0_1 : u_lay RX0 TX0 1 ∈ WS := ws_i (mT1 (List.mem_of_getElem? (i := 205) (by decide +kernel))) (by decide +kernel)
theorem la_X0_2 : u_lay RX0 TX0 2 ∈ WS := ws_i (mT1 (List.mem_of_getElem? (i := 207) (by decide +kernel))) (by decide +kernel)
theorem la_X0_3 : u_lay RX0 TX0 3 ∈ WS := ws_i (mT1 (List.mem_of_getElem? (i := 209) (by decide +kernel))) (by decide +kernel)
theorem la_X0_4 : u_lay RX0 TX0 4 ∈ WS := ws_i (mT1 (List.mem_of_getElem? (i := 211) (by decide +kernel))) (by decide +kernel)
theorem la_X0_5 : u_lay RX0 TX0 5 ∈ WS := ws_i (mT1 (List.mem_of_getElem? (i := 213) (by decide +kernel))) (by decide +kernel)
theorem la_X0_6 : u_lay RX0 TX0 6 ∈ WS := ws_i (mT1 (List.mem_of_getElem? (i := 215) (by decide +kernel))) (by decide +kernel)
theorem la_X0_7 : u_lay RX0 TX0 7 ∈ WS := ws_i (mT1 (List.mem_of_getElem? (i := 217) (by decide +kernel))) (by decide +kernel)
theorem la_X0_8 : u_lay RX0 TX0 8 ∈ WS := ws_i (mT1 (List.mem_of_getElem? (i := 219) (by decide +kernel))) (by decide +kernel)
theorem lb_X0 : ∀ k, k < 9 → u_lay RX0 TX0 k ∈ WS := fun k hk => match k, hk with
  | 0, _ => la_X0_0
  | 1, _ => la_X0_1
  | 2, _ => la_X0_2
  | 3, _ => la_X0_3
  | 4, _ => la_X0_4
  | 5, _ => la_X0_5
  | 6, _ => la_X0_6
  | 7, _ => la_X0_7
  | 8, _ => la_X0_8
  | n + 9, h => absurd h (by omega)
theorem lc_X0 : ∀ w ∈ u_ws RX0 TX0 9, w ∈ WS := fun w hw => by
  obtain ⟨k, hk, rfl⟩ := List.mem_map.mp hw
  exact lb_X0 k (List.mem_range.mp hk)
theorem la_X1_0 : u_lay RX1 TX1 0 ∈ WS := ws_i (mT4 (List.mem_of_getElem? (i := 156) (by decide +kernel))) (by decide +kernel)
theorem la_X1_1 : u_lay RX1 TX1 1 ∈ WS := ws_i (mT4 (List.mem_of_getElem? (i := 158) (by decide +kernel))) (by decide +kernel)
theorem la_X1_2 : u_lay RX1 TX1 2 ∈ WS := ws_i (mT4 (List.mem_of_getElem? (i := 160) (by decide +kernel))) (by decide +kernel)
theorem la_X1_3 : u_lay RX1 TX1 3 ∈ WS := ws_i (mT4 (List.mem_of_getElem? (i := 162) (by decide +kernel))) (by decide +kernel)
theorem la_X1_4 : u_lay RX1 TX1 4 ∈ WS := ws_i (mT4 (List.mem_of_getElem? (i := 164) (by decide +kernel))) (by decide +kernel)
theorem la_X1_5 : u_lay RX1 TX1 5 ∈ WS := ws_i (mT4 (List.mem_of_getElem? (i := 166) (by decide +kernel))) (by decide +kernel)
theorem la_X1_6 : u_lay RX1 TX1 6 ∈ WS := ws_i (mT4 (List.mem_of_getElem? (i := 168) (by decide +kernel))) (by decide +kernel)
theorem la_X1_7 : u_lay RX1 TX1 7 ∈ WS := ws_i (mT4 (List.mem_of_getElem? (i := 170) (by decide +kernel))) (by decide +kernel)
theorem la_X1_8 : u_lay RX1 TX1 8 ∈ WS := ws_i (mT4 (List.mem_of_getElem? (i := 172) (by decide +kernel))) (by decide +kernel)
theorem la_X1_9 : u_lay RX1 TX1 9 ∈ WS := ws_i (mT4 (List.mem_of_getElem? (i := 174) (by decide +kernel))) (by decide +kernel)
theorem la_X1_10 : u_lay RX1 TX1 10 ∈ WS := ws_i (mT4 (List.mem_of_getElem? (i := 176) (by decide +kernel))) (by decide +kernel)
theorem lb_X1 : ∀ k, k < 11 → u_lay RX1 TX1 k ∈ WS := fun k hk => match k, hk with
  | 0, _ => la_X1_0
  | 1, _ => la_X1_1
  | 2, _ => la_X1_2
  | 3, _ => la_X1_3
  | 4, _ => la_X1_4
  | 5, _ => la_X1_5
  | 6, _ => la_X1_6
  | 7, _ => la_X1_7
  | 8, _ => la_X1_8
  | 9, _ => la_X1_9
  | 10, _ => la_X1_10
  | n + 11, h => absurd h (by omega)
theorem lc_X1 : ∀ w ∈ u_ws RX1 TX1 11, w ∈ WS := fun w hw => by
  obtain ⟨k, hk, rfl⟩ := List.mem_map.mp hw
  exact lb_X1 k (List.mem_range.mp hk)
theorem la_X2_0 : u_lay RX2 TX2 0 ∈ WS := ws_i (mT2 (List.mem_of_getElem? (i := 7) (by decide +kernel))) (by decide +kernel)
theorem la_X2_1 : u_lay RX2 TX2 1 ∈ WS := ws_i (mT2 (List.mem_of_getElem? (i := 9) (by decide +kernel))) (by decide +kernel)
theorem la_X2_2 : u_lay RX2 TX2 2 ∈ WS := ws_i (mT2 (List.mem_of_getElem? (i := 11) (by decide +kernel))) (by decide +kernel)
theorem la_X2_3 : u_lay RX2 TX2 3 ∈ WS := ws_i (mT2 (List.mem_of_getElem? (i := 13) (by decide +kernel))) (by decide +kernel)
theorem la_X2_4 : u_lay RX2 TX2 4 ∈ WS := ws_i (mT2 (List.mem_of_getElem? (i := 15) (by decide +kernel))) (by decide +kernel)
theorem la_X2_5 : u_lay RX2 TX2 5 ∈ WS := ws_i (mT2 (List.mem_of_getElem? (i := 17) (by decide +kernel))) (by decide +kernel)
theorem lb_X2 : ∀ k, k < 6 → u_lay RX2 TX2 k ∈ WS := fun k hk => match k, hk with
  | 0, _ => la_X2_0
  | 1, _ => la_X2_1
  | 2, _ => la_X2_2
  | 3, _ => la_X2_3
  | 4, _ => la_X2_4
  | 5, _ => la_X2_5
  | n + 6, h => absurd h (by omega)
theorem lc_X2 : ∀ w ∈ u_ws RX2 TX2 6, w ∈ WS := fun w hw => by
  obtain ⟨k, hk, rfl⟩ := List.mem_map.mp hw
  exact lb_X2 k (List.mem_range.mp hk)
theorem la_X3_0 : u_lay RX3 TX3 0 ∈ WS := ws_i (mT2 (List.mem_of_getElem? (i := 110) (by decide +kernel))) (by decide +kernel)
theorem la_X3_1 : u_lay RX3 TX3 1 ∈ WS := ws_i (mT2 (List.mem_of_getElem? (i := 112) (by decide +kernel))) (by decide +kernel)
theorem la_X3_2 : u_lay RX3 TX3 2 ∈ WS := ws_i (mT2 (List.mem_of_getElem? (i := 114) (by decide +kernel))) (by decide +kernel)
theorem la_X3_3 : u_lay RX3 TX3 3 ∈ WS := ws_i (mT2 (List.mem_of_getElem? (i := 116) (by decide +kernel))) (by decide +kernel)
theorem la_X3_4 : u_lay RX3 TX3 4 ∈ WS := ws_i (mT2 (List.mem_of_getElem? (i := 118) (by decide +kernel))) (by decide +kernel)
theorem la_X3_5 : u_lay RX3 TX3 5 ∈ WS := ws_i (mT2 (List.mem_of_getElem? (i := 120) (by decide +kernel))) (by decide +kernel)
theorem la_X3_6 : u_lay RX3 TX3 6 ∈ WS := ws_i (mT2 (List.mem_of_getElem? (i := 122) (by decide +kernel))) (by decide +kernel)
theorem la_X3_7 : u_lay RX3 TX3 7 ∈ WS := ws_i (mT2 (List.mem_of_getElem? (i := 124) (by decide +kernel))) (by decide +kernel)
theorem la_X3_8 : u_lay RX3 TX3 8 ∈ WS := ws_i (mT2 (List.mem_of_getElem? (i := 126) (by decide +kernel))) (by decide +kernel)
theorem la_X3_9 : u_lay RX3 TX3 9 ∈ WS := ws_i (mT2 (List.mem_of_getElem? (i := 128) (by decide +kernel))) (by decide +kernel)
theorem lb_X3 : ∀ k, k < 10 → u_lay RX3 TX3 k ∈ WS := fun k hk => match k, hk with
  | 0, _ => la_X3_0
  | 1, _ => la_X3_1
  | 2, _ => la_X3_2
  | 3, _ => la_X3_3
  | 4, _ => la_X3_4
  | 5, _ => la_X3_5
  | 6, _ => la_X3_6
  | 7, _ => la_X3_7
  | 8, _ => la_X3_8
  | 9, _ => la_X3_9
  | n + 10, h => absurd h (by omega)
theorem lc_X3 : ∀ w ∈ u_ws RX3 TX3 10, w ∈ WS := fun w hw => by
  obtain ⟨k, hk, rfl⟩ := List.mem_map.mp hw
  exact lb_X3 k (List.mem_range.mp hk)
theorem la_X4_0 : u_lay RX4 TX4 0 ∈ WS := ws_i (mT2 (List.mem_of_getElem? (i := 39) (by decide +kernel))) (by decide +kernel)
theorem la_X4_1 : u_lay RX4 TX4 1 ∈ WS := ws_i (mT2 (List.mem_of_getElem? (i := 41) (by decide +kernel))) (by decide +kernel)
theorem la_X4_2 : u_lay RX4 TX4 2 ∈ WS := ws_i (mT2 (List.mem_of_getElem? (i := 43) (by decide +kernel))) (by decide +kernel)
theorem la_X4_3 : u_lay RX4 TX4 3 ∈ WS := ws_i (mT2 (List.mem_of_getElem? (i := 45) (by decide +kernel))) (by decide +kernel)
theorem la_X4_4 : u_lay RX4 TX4 4 ∈ WS := ws_i (mT2 (List.mem_of_getElem? (i := 47) (by decide +kernel))) (by decide +kernel)
theorem la_X4_5 : u_lay RX4 TX4 5 ∈ WS := ws_i (mT2 (List.mem_of_getElem? (i := 49) (by decide +kernel))) (by decide +kernel)
theorem la_X4_6 : u_lay RX4 TX4 6 ∈ WS := ws_i (mT2 (List.mem_of_getElem? (i := 51) (by decide +kernel))) (by decide +kernel)
theorem la_X4_7 : u_lay RX4 TX4 7 ∈ WS := ws_i (mT2 (List.mem_of_getElem? (i := 53) (by decide +kernel))) (by decide +kernel)
theorem lb_X4 : ∀ k, k < 8 → u_lay RX4 TX4 k ∈ WS := fun k hk => match k, hk with
  | 0, _ => la_X4_0
  | 1, _ => la_X4_1
  | 2, _ => la_X4_2
  | 3, _ => la_X4_3
  | 4, _ => la_X4_4
  | 5, _ => la_X4_5
  | 6, _ => la_X4_6
  | 7, _ => la_X4_7
  | n + 8, h => absurd h (by omega)
theorem lc_X4 : ∀ w ∈ u_ws RX4 TX4 8, w ∈ WS := fun w hw => by
  obtain ⟨k, hk, rfl⟩ := List.mem_map.mp hw
  exact lb_X4 k (List.mem_range.mp hk)
theorem la_X5_0 : u_lay RX5 TX5 0 ∈ WS := ws_i (mT2 (List.mem_of_getElem? (i := 183) (by decide +kernel))) (by decide +kernel)
theorem la_X5_1 : u_lay RX5 TX5 1 ∈ WS := ws_i (mT2 (List.mem_of_getElem? (i := 185) (by decide +kernel))) (by decide +kernel)
theorem lb_X5 : ∀ k, k < 2 → u_lay RX5 TX5 k ∈ WS := fun k hk => match k, hk with
  | 0, _ => la_X5_0
  | 1, _ => la_X5_1
  | n + 2, h => absurd h (by omega)
theorem lc_X5 : ∀ w ∈ u_ws RX5 TX5 2, w ∈ WS := fun w hw => by
  obtain ⟨k, hk, rfl⟩ := List.mem_map.mp hw
  exact lb_X5 k (List.mem_range.mp hk)
theorem la_X6_0 : u_lay RX6 TX6 0 ∈ WS := ws_i (mT1 (List.mem_of_getElem? (i := 159) (by decide +kernel))) (by decide +kernel)
theorem la_X6_1 : u_lay RX6 TX6 1 ∈ WS := ws_i (mT1 (List.mem_of_getElem? (i := 161) (by decide +kernel))) (by decide +kernel)
theorem la_X6_2 : u_lay RX6 TX6 2 ∈ WS := ws_i (mT1 (List.mem_of_getElem? (i := 163) (by decide +kernel))) (by decide +kernel)
theorem la_X6_3 : u_lay RX6 TX6 3 ∈ WS := ws_i (mT1 (List.mem_of_getElem? (i := 165) (by decide +kernel))) (by decide +kernel)
theorem la_X6_4 : u_lay RX6 TX6 4 ∈ WS := ws_i (mT1 (List.mem_of_getElem? (i := 167) (by decide +kernel))) (by decide +kernel)
theorem la_X6_5 : u_lay RX6 TX6 5 ∈ WS := ws_i (mT1 (List.mem_of_getElem? (i := 169) (by decide +kernel))) (by decide +kernel)
theorem la_X6_6 : u_lay RX6 TX6 6 ∈ WS := ws_i (mT1 (List.mem_of_getElem? (i := 171) (by decide +kernel))) (by decide +kernel)
theorem la_X6_7 : u_lay RX6 TX6 7 ∈ WS := ws_i (mT1 (List.mem_of_getElem? (i := 173) (by decide +kernel))) (by decide +kernel)
theorem la_X6_8 : u_lay RX6 TX6 8 ∈ WS := ws_i (mT1 (List.mem_of_getElem? (i := 175) (by decide +kernel))) (by decide +kernel)
theorem la_X6_9 : u_lay RX6 TX6 9 ∈ WS := ws_i (mT1 (List.mem_of_getElem? (i := 177) (by decide +kernel))) (by decide +kernel)
theorem la_X6_10 : u_lay RX6 TX6 10 ∈ WS := ws_i (mT1 (List.mem_of_getElem? (i := 179) (by decide +kernel))) (by decide +kernel)
theorem lb_X6 : ∀ k, k < 11 → u_lay RX6 TX6 k ∈ WS := fun k hk => match k, hk with
  | 0, _ => la_X6_0
  | 1, _ => la_X6_1
  | 2, _ => la_X6_2
  | 3, _ => la_X6_3
  | 4, _ => la_X6_4
  | 5, _ => la_X6_5
  | 6, _ => la_X6_6
  | 7, _ => la_X6_7
  | 8, _ => la_X6_8
  | 9, _ => la_X6_9
  | 10, _ => la_X6_10
  | n + 11, h => absurd h (by omega)
theorem lc_X6 : ∀ w ∈ u_ws RX6 TX6 11, w ∈ WS := fun w hw => by
  obtain ⟨k, hk, rfl⟩ := List.mem_map.mp hw
  exact lb_X6 k (List.mem_range.mp hk)
theorem la_X7_0 : u_lay RX7 TX7 0 ∈ WS := ws_i (mT2 (List.mem_of_getElem? (i := 74) (by decide +kernel))) (by decide +kernel)
theorem la_X7_1 : u_lay RX7 TX7 1 ∈ WS := ws_i (mT2 (List.mem_of_getElem? (i := 76) (by decide +kernel))) (by decide +kernel)
theorem la_X7_2 : u_lay RX7 TX7 2 ∈ WS := ws_i (mT2 (List.mem_of_getElem? (i := 78) (by decide +kernel))) (by decide +kernel)
theorem la_X7_3 : u_lay RX7 TX7 3 ∈ WS := ws_i (mT2 (List.mem_of_getElem? (i := 80) (by decide +kernel))) (by decide +kernel)
theorem la_X7_4 : u_lay RX7 TX7 4 ∈ WS := ws_i (mT2 (List.mem_of_getElem? (i := 82) (by decide +kernel))) (by decide +kernel)
theorem la_X7_5 : u_lay RX7 TX7 5 ∈ WS := ws_i (mT2 (List.mem_of_getElem? (i := 84) (by decide +kernel))) (by decide +kernel)
theorem la_X7_6 : u_lay RX7 TX7 6 ∈ WS := ws_i (mT2 (List.mem_of_getElem? (i := 86) (by decide +kernel))) (by decide +kernel)
theorem lb_X7 : ∀ k, k < 7 → u_lay RX7 TX7 k ∈ WS := fun k hk => match k, hk with
  | 0, _ => la_X7_0
  | 1, _ => la_X7_1
  | 2, _ => la_X7_2
  | 3, _ => la_X7_3
  | 4, _ => la_X7_4
  | 5, _ => la_X7_5
  | 6, _ => la_X7_6
  | n + 7, h => absurd h (by omega)
theorem lc_X7 : ∀ w ∈ u_ws RX7 TX7 7, w ∈ WS := fun w hw => by
  obtain ⟨k, hk, rfl⟩ := List.mem_map.mp hw
  exact lb_X7 k (List.mem_range.mp hk)
theorem la_X8_0 : u_lay RX8 TX8 0 ∈ WS := ws_i (mT1 (List.mem_of_getElem? (i := 104) (by decide +kernel))) (by decide +kernel)
theorem la_X8_1 : u_lay RX8 TX8 1 ∈ WS := ws_i (mT1 (List.mem_of_getElem? (i := 106) (by decide +kernel))) (by decide +kernel)
theorem la_X8_2 : u_lay RX8 TX8 2 ∈ WS := ws_i (mT1 (List.mem_of_getElem? (i := 108) (by decide +kernel))) (by decide +kernel)
theorem la_X8_3 : u_lay RX8 TX8 3 ∈ WS := ws_i (mT1 (List.mem_of_getElem? (i := 110) (by decide +kernel))) (by decide +kernel)
theorem la_X8_4 : u_lay RX8 TX8 4 ∈ WS := ws_i (mT1 (List.mem_of_getElem? (i := 112) (by decide +kernel))) (by decide +kernel)
theorem la_X8_5 : u_lay RX8 TX8 5 ∈ WS := ws_i (mT1 (List.mem_of_getElem? (i := 114) (by decide +kernel))) (by decide +kernel)
theorem la_X8_6 : u_lay RX8 TX8 6 ∈ WS := ws_i (mT1 (List.mem_of_getElem? (i := 116) (by decide +kernel))) (by decide +kernel)
theorem la_X8_7 : u_lay RX8 TX8 7 ∈ WS := ws_i (mT1 (List.mem_of_getElem? (i := 118) (by decide +kernel))) (by decide +kernel)
theorem la_X8_8 : u_lay RX8 TX8 8 ∈ WS := ws_i (mT1 (List.mem_of_getElem? (i := 120) (by decide +kernel))) (by decide +kernel)
theorem la_X8_9 : u_lay RX8 TX8 9 ∈ WS := ws_i (mT1 (List.mem_of_getElem? (i := 122) (by decide +kernel))) (by decide +kernel)
theorem la_X8_10 : u_lay RX8 TX8 10 ∈ WS := ws_i (mT1 (List.mem_of_getElem? (i := 124) (by decide +kernel))) (by decide +kernel)
theorem la_X8_11 : u_lay RX8 TX8 11 ∈ WS := ws_i (mT1 (List.mem_of_getElem? (i := 126) (by decide +kernel))) (by decide +kernel)
theorem la_X8_12 : u_lay RX8 TX8 12 ∈ WS := ws_i (mT1 (List.mem_of_getElem? (i := 128) (by decide +kernel))) (by decide +kernel)
theorem la_X8_13 : u_lay RX8 TX8 13 ∈ WS := ws_i (mT1 (List.mem_of_getElem? (i := 130) (by decide +kernel))) (by decide +kernel)
theorem la_X8_14 : u_lay RX8 TX8 14 ∈ WS := ws_i (mT1 (List.mem_of_getElem? (i := 132) (by decide +kernel))) (by decide +kernel)
theorem la_X8_15 : u_lay RX8 TX8 15 ∈ WS := ws_i (mT1 (List.mem_of_getElem? (i := 134) (by decide +kernel))) (by decide +kernel)
theorem lb_X8 : ∀ k, k < 16 → u_lay RX8 TX8 k ∈ WS := fun k hk => match k, hk with
  | 0, _ => la_X8_0
  | 1, _ => la_X8_1
  | 2, _ => la_X8_2
  | 3, _ => la_X8_3
  | 4, _ => la_X8_4
  | 5, _ => la_X8_5
  | 6, _ => la_X8_6
  | 7, _ => la_X8_7
  | 8, _ => la_X8_8
  | 9, _ => la_X8_9
  | 10, _ => la_X8_10
  | 11, _ => la_X8_11
  | 12, _ => la_X8_12
  | 13, _ => la_X8_13
  | 14, _ => la_X8_14
  | 15, _ => la_X8_15
  | n + 16, h => absurd h (by omega)
theorem lc_X8 : ∀ w ∈ u_ws RX8 TX8 16, w ∈ WS := fun w hw => by
  obtain ⟨k, hk, rfl⟩ := List.mem_map.mp hw
  exact lb_X8 k (List.mem_range.mp hk)
theorem la_X9_0 : u_lay RX9 TX9 0 ∈ WS := ws_i (mT2 (List.mem_of_getElem? (i := 151) (by decide +kernel))) (by decide +kernel)
theorem la_X9_1 : u_lay RX9 TX9 1 ∈ WS := ws_i (mT2 (List.mem_of_getElem? (i := 153) (by decide +kernel))) (by decide +kernel)
theorem la_X9_2 : u_lay RX9 TX9 2 ∈ WS := ws_i (mT2 (List.mem_of_getElem? (i := 155) (by decide +kernel))) (by decide +kernel)
theorem la_X9_3 : u_lay RX9 TX9 3 ∈ WS := ws_i (mT2 (List.mem_of_getElem? (i := 157) (by decide +kernel))) (by decide +kernel)
theorem la_X9_4 : u_lay RX9 TX9 4 ∈ WS := ws_i (mT2 (List.mem_of_getElem? (i := 159) (by decide +kernel))) (by decide +kernel)
theorem la_X9_5 : u_lay RX9 TX9 5 ∈ WS := ws_i (mT2 (List.mem_of_getElem? (i := 161) (by decide +kernel))) (by decide +kernel)
theorem la_X9_6 : u_lay RX9 TX9 6 ∈ WS := ws_i (mT2 (List.mem_of_getElem? (i := 163) (by decide +kernel))) (by decide +kernel)
theorem la_X9_7 : u_lay RX9 TX9 7 ∈ WS := ws_i (mT2 (List.mem_of_getElem? (i := 165) (by decide +kernel))) (by decide +kernel)
theorem la_X9_8 : u_lay RX9 TX9 8 ∈ WS := ws_i (mT2 (List.mem_of_getElem? (i := 167) (by decide +kernel))) (by decide +kernel)
theorem la_X9_9 : u_lay RX9 TX9 9 ∈ WS := ws_i (mT2 (List.mem_of_getElem? (i := 169) (by decide +kernel))) (by decide +kernel)
theorem la_X9_10 : u_lay RX9 TX9 10 ∈ WS := ws_i (mT2 (List.mem_of_getElem? (i := 171) (by decide +kernel))) (by decide +kernel)
theorem lb_X9 : ∀ k, k < 11 → u_lay RX9 TX9 k ∈ WS := fun k hk => match k, hk with
  | 0, _ => la_X9_0
  | 1, _ => la_X9_1
  | 2, _ => la_X9_2
  | 3, _ => la_X9_3
  | 4, _ => la_X9_4
  | 5, _ => la_X9_5
  | 6, _ => la_X9_6
  | 7, _ => la_X9_7
  | 8, _ => la_X9_8
  | 9, _ => la_X9_9
  | 10, _ => la_X9_10
  | n + 11, h => absurd h (by omega)
theorem lc_X9 : ∀ w ∈ u_ws RX9 TX9 11, w ∈ WS := fun w hw => by
  obtain ⟨k, hk, rfl⟩ := List.mem_map.mp hw
  exact lb_X9 k (List.mem_range.mp hk)
theorem la_X10_0 : u_lay RX10 TX10 0 ∈ WS := ws_i (mT2 (List.mem_of_getElem? (i := 198) (by decide +kernel))) (by decide +kernel)
theorem la_X10_1 : u_lay RX10 TX10 1 ∈ WS := ws_i (mT2 (List.mem_of_getElem? (i := 200) (by decide +kernel))) (by decide +kernel)
theorem la_X10_2 : u_lay RX10 TX10 2 ∈ WS := ws_i (mT2 (List.mem_of_getElem? (i := 202) (by decide +kernel))) (by decide +kernel)
theorem la_X10_3 : u_lay RX10 TX10 3 ∈ WS := ws_i (mT2 (List.mem_of_getElem? (i := 204) (by decide +kernel))) (by decide +kernel)
theorem la_X10_4 : u_lay RX10 TX10 4 ∈ WS := ws_i (mT2 (List.mem_of_getElem? (i := 206) (by decide +kernel))) (by decide +kernel)
theorem la_X10_5 : u_lay RX10 TX10 5 ∈ WS := ws_i (mT2 (List.mem_of_getElem? (i := 208) (by decide +kernel))) (by decide +kernel)
theorem la_X10_6 : u_lay RX10 TX10 6 ∈ WS := ws_i (mT2 (List.mem_of_getElem? (i := 210) (by decide +kernel))) (by decide +kernel)
theorem la_X10_7 : u_lay RX10 TX10 7 ∈ WS := ws_i (mT2 (List.mem_of_getElem? (i := 212) (by decide +kernel))) (by decide +kernel)
theorem la_X10_8 : u_lay RX10 TX10 8 ∈ WS := ws_i (mT2 (List.mem_of_getElem? (i := 214) (by decide +kernel))) (by decide +kernel)
theorem la_X10_9 : u_lay RX10 TX10 9 ∈ WS := ws_i (mT2 (List.mem_of_getElem? (i := 216) (by decide +kernel))) (by decide +kernel)
theorem lb_X10 : ∀ k, k < 10 → u_lay RX10 TX10 k ∈ WS := fun k hk => match k, hk with
  | 0, _ => la_X10_0
  | 1, _ => la_X10_1
  | 2, _ => la_X10_2
  | 3, _ => la_X10_3
  | 4, _ => la_X10_4
  | 5, _ => la_X10_5
  | 6, _ => la_X10_6
  | 7, _ => la_X10_7
  | 8, _ => la_X10_8
  | 9, _ => la_X10_9
  | n + 10, h => absurd h (by omega)
theorem lc_X10 : ∀ w ∈ u_ws RX10 TX10 10, w ∈ WS := fun w hw => by
  obtain ⟨k, hk, rfl⟩ := List.mem_map.mp hw
  exact lb_X10 k (List.mem_range.mp hk)
theorem la_X11_0 : u_lay RX11 TX11 0 ∈ WS := ws_i (mT6 (List.mem_of_getElem? (i := 41) (by decide +kernel))) (by decide +kernel)
theorem la_X11_1 : u_lay RX11 TX11 1 ∈ WS := ws_i (mT6 (List.mem_of_getElem? (i := 43) (by decide +kernel))) (by decide +kernel)
theorem la_X11_2 : u_lay RX11 TX11 2 ∈ WS := ws_i (mT6 (List.mem_of_getElem? (i := 45) (by decide +kernel))) (by decide +kernel)
theorem la_X11_3 : u_lay RX11 TX11 3 ∈ WS := ws_i (mT6 (List.mem_of_getElem? (i := 47) (by decide +kernel))) (by decide +kernel)
theorem la_X11_4 : u_lay RX11 TX11 4 ∈ WS := ws_i (mT6 (List.mem_of_getElem? (i := 49) (by decide +kernel))) (by decide +kernel)
theorem la_X11_5 : u_lay RX11 TX11 5 ∈ WS := ws_i (mT6 (List.mem_of_getElem? (i := 51) (by decide +kernel))) (by decide +kernel)
theorem la_X11_6 : u_lay RX11 TX11 6 ∈ WS := ws_i (mT6 (List.mem_of_getElem? (i := 53) (by decide +kernel))) (by decide +kernel)
theorem la_X11_7 : u_lay RX11 TX11 7 ∈ WS := ws_i (mT6 (List.mem_of_getElem? (i := 55) (by decide +kernel))) (by decide +kernel)
theorem la_X11_8 : u_lay RX11 TX11 8 ∈ WS := ws_i (mT6 (List.mem_of_getElem? (i := 57) (by decide +kernel))) (by decide +kernel)
theorem la_X11_9 : u_lay RX11 TX11 9 ∈ WS := ws_i (mT6 (List.mem_of_getElem? (i := 59) (by decide +kernel))) (by decide +kernel)
theorem la_X11_10 : u_lay RX11 TX11 10 ∈ WS := ws_i (mT6 (List.mem_of_getElem? (i := 61) (by decide +kernel))) (by decide +kernel)
theorem la_X11_11 : u_lay RX11 TX11 11 ∈ WS := ws_i (mT6 (List.mem_of_getElem? (i := 63) (by decide +kernel))) (by decide +kernel)
theorem la_X11_12 : u_lay RX11 TX11 12 ∈ WS := ws_i (mT6 (List.mem_of_getElem? (i := 65) (by decide +kernel))) (by decide +kernel)
theorem la_X11_13 : u_lay RX11 TX11 13 ∈ WS := ws_i (mT6 (List.mem_of_getElem? (i := 67) (by decide +kernel))) (by decide +kernel)
theorem la_X11_14 : u_lay RX11 TX11 14 ∈ WS := ws_i (mT6 (List.mem_of_getElem? (i := 69) (by decide +kernel))) (by decide +kernel)
theorem la_X11_15 : u_lay RX11 TX11 15 ∈ WS := ws_i (mT6 (List.mem_of_getElem? (i := 71) (by decide +kernel))) (by decide +kernel)
theorem la_X11_16 : u_lay RX11 TX11 16 ∈ WS := ws_i (mT6 (List.mem_of_getElem? (i := 73) (by decide +kernel))) (by decide +kernel)
theorem la_X11_17 : u_lay RX11 TX11 17 ∈ WS := ws_i (mT6 (List.mem_of_getElem? (i := 75) (by decide +kernel))) (by decide +kernel)
theorem la_X11_18 : u_lay RX11 TX11 18 ∈ WS := ws_i (mT6 (List.mem_of_getElem? (i := 77) (by decide +kernel))) (by decide +kernel)
theorem la_X11_19 : u_lay RX11 TX11 19 ∈ WS := ws_i (mT6 (List.mem_of_getElem? (i := 79) (by decide +kernel))) (by decide +kernel)
theorem la_X11_20 : u_lay RX11 TX11 20 ∈ WS := ws_i (mT6 (List.mem_of_getElem? (i := 81) (by decide +kernel))) (by decide +kernel)
theorem la_X11_21 : u_lay RX11 TX11 21 ∈ WS := ws_i (mT6 (List.mem_of_getElem? (i := 83) (by decide +kernel))) (by decide +kernel)
theorem la_X11_22 : u_lay RX11 TX11 22 ∈ WS := ws_i (mT6 (List.mem_of_getElem? (i := 85) (by decide +kernel))) (by decide +kernel)
theorem la_X11_23 : u_lay RX11 TX11 23 ∈ WS := ws_i (mT6 (List.mem_of_getElem? (i := 87) (by decide +kernel))) (by decide +kernel)
theorem la_X11_24 : u_lay RX11 TX11 24 ∈ WS := ws_i (mT6 (List.mem_of_getElem? (i := 89) (by decide +kernel))) (by decide +kernel)
theorem la_X11_25 : u_lay RX11 TX11 25 ∈ WS := ws_i (mT6 (List.mem_of_getElem? (i := 91) (by decide +kernel))) (by decide +kernel)
theorem la_X11_26 : u_lay RX11 TX11 26 ∈ WS := ws_i (mT6 (List.mem_of_getElem? (i := 93) (by decide +kernel))) (by decide +kernel)
theorem la_X11_27 : u_lay RX11 TX11 27 ∈ WS := ws_i (mT6 (List.mem_of_getElem? (i := 95) (by decide +kernel))) (by decide +kernel)
theorem la_X11_28 : u_lay RX11 TX11 28 ∈ WS := ws_i (mT6 (List.mem_of_getElem? (i := 97) (by decide +kernel))) (by decide +kernel)
theorem la_X11_29 : u_lay RX11 TX11 29 ∈ WS := ws_i (mT6 (List.mem_of_getElem? (i := 99) (by decide +kernel))) (by decide +kernel)
theorem la_X11_30 : u_lay RX11 TX11 30 ∈ WS := ws_i (mT6 (List.mem_of_getElem? (i := 101) (by decide +kernel))) (by decide +kernel)
theorem la_X11_31 : u_lay RX11 TX11 31 ∈ WS := ws_i (mT6 (List.mem_of_getElem? (i := 103) (by decide +kernel))) (by decide +kernel)
theorem la_X11_32 : u_lay RX11 TX11 32 ∈ WS := ws_i (mT6 (List.mem_of_getElem? (i := 105) (by decide +kernel))) (by decide +kernel)
theorem la_X11_33 : u_lay RX11 TX11 33 ∈ WS := ws_i (mT6 (List.mem_of_getElem? (i := 107) (by decide +kernel))) (by decide +kernel)
theorem la_X11_34 : u_lay RX11 TX11 34 ∈ WS := ws_i (mT6 (List.mem_of_getElem? (i := 109) (by decide +kernel))) (by decide +kernel)
theorem la_X11_35 : u_lay RX11 TX11 35 ∈ WS := ws_i (mT6 (List.mem_of_getElem? (i := 111) (by decide +kernel))) (by decide +kernel)
theorem la_X11_36 : u_lay RX11 TX11 36 ∈ WS := ws_i (mT6 (List.mem_of_getElem? (i := 113) (by decide +kernel))) (by decide +kernel)
theorem la_X11_37 : u_lay RX11 TX11 37 ∈ WS := ws_i (mT6 (List.mem_of_getElem? (i := 115) (by decide +kernel))) (by decide +kernel)
theorem la_X11_38 : u_lay RX11 TX11 38 ∈ WS := ws_i (mT6 (List.mem_of_getElem? (i := 117) (by decide +kernel))) (by decide +kernel)
theorem la_X11_39 : u_lay RX11 TX11 39 ∈ WS := ws_i (mT6 (List.mem_of_getElem? (i := 119) (by decide +kernel))) (by decide +kernel)
theorem la_X11_40 : u_lay RX11 TX11 40 ∈ WS := ws_i (mT6 (List.mem_of_getElem? (i := 121) (by decide +kernel))) (by decide +kernel)
theorem la_X11_41 : u_lay RX11 TX11 41 ∈ WS := ws_i (mT6 (List.mem_of_getElem? (i := 123) (by decide +kernel))) (by decide +kernel)
theorem la_X11_42 : u_lay RX11 TX11 42 ∈ WS := ws_i (mT6 (List.mem_of_getElem? (i := 125) (by decide +kernel))) (by decide +kernel)
theorem la_X11_43 : u_lay RX11 TX11 43 ∈ WS := ws_i (mT6 (List.mem_of_getElem? (i := 127) (by decide +kernel))) (by decide +kernel)
theorem la_X11_44 : u_lay RX11 TX11 44 ∈ WS := ws_i (mT6 (List.mem_of_getElem? (i := 129) (by decide +kernel))) (by decide +kernel)
theorem la_X11_45 : u_lay RX11 TX11 45 ∈ WS := ws_i (mT6 (List.mem_of_getElem? (i := 131) (by decide +kernel))) (by decide +kernel)
theorem la_X11_46 : u_lay RX11 TX11 46 ∈ WS := ws_i (mT6 (List.mem_of_getElem? (i := 133) (by decide +kernel))) (by decide +kernel)
theorem la_X11_47 : u_lay RX11 TX11 47 ∈ WS := ws_i (mT6 (List.mem_of_getElem? (i := 135) (by decide +kernel))) (by decide +kernel)
theorem la_X11_48 : u_lay RX11 TX11 48 ∈ WS := ws_i (mT6 (List.mem_of_getElem? (i := 137) (by decide +kernel))) (by decide +kernel)
theorem lb_X11 : ∀ k, k < 49 → u_lay RX11 TX11 k ∈ WS := fun k hk => match k, hk with
  | 0, _ => la_X11_0
  | 1, _ => la_X11_1
  | 2, _ => la_X11_2
  | 3, _ => la_X11_3
  | 4, _ => la_X11_4
  | 5, _ => la_X11_5
  | 6, _ => la_X11_6
  | 7, _ => la_X11_7
  | 8, _ => la_X11_8
  | 9, _ => la_X11_9
  | 10, _ => la_X11_10
  | 11, _ => la_X11_11
  | 12, _ => la_X11_12
  | 13, _ => la_X11_13
  | 14, _ => la_X11_14
  | 15, _ => la_X11_15
  | 16, _ => la_X11_16
  | 17, _ => la_X11_17
  | 18, _ => la_X11_18
  | 19, _ => la_X11_19
  | 20, _ => la_X11_20
  | 21, _ => la_X11_21
  | 22, _ => la_X11_22
  | 23, _ => la_X11_23
  | 24, _ => la_X11_24
  | 25, _ => la_X11_25
  | 26, _ => la_X11_26
  | 27, _ => la_X11_27
  | 28, _ => la_X11_28
  | 29, _ => la_X11_29
  | 30, _ => la_X11_30
  | 31, _ => la_X11_31
  | 32, _ => la_X11_32
  | 33, _ => la_X11_33
  | 34, _ => la_X11_34
  | 35, _ => la_X11_35
  | 36, _ => la_X11_36
  | 37, _ => la_X11_37
  | 38, _ => la_X11_38
  | 39, _ => la_X11_39
  | 40, _ => la_X11_40
  | 41, _ => la_X11_41
  | 42, _ => la_X11_42
  | 43, _ => la_X11_43
  | 44, _ => la_X11_44
  | 45, _ => la_X11_45
  | 46, _ => la_X11_46
  | 47, _ => la_X11_47
  | 48, _ => la_X11_48
  | n + 49, h => absurd h (by omega)
theorem lc_X11 : ∀ w ∈ u_ws RX11 TX11 49, w ∈ WS := fun w hw => by
  obtain ⟨k, hk, rfl⟩ := List.mem_map.mp hw
  exact lb_X11 k (List.mem_range.mp hk)
