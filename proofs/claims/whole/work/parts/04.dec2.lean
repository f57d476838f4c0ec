theorem dX6_init_0 : decode cX6_init 0 = .ok (.aload_n 0, 1) := by decide +kernel
theorem dX6_init_1 : decode cX6_init 1 = .ok (.invokespecial 3, 3) := by decide +kernel
theorem dX6_init_4 : decode cX6_init 4 = .ok (.aload_n 0, 1) := by decide +kernel
theorem dX6_init_5 : decode cX6_init 5 = .ok (.sipush 600, 3) := by decide +kernel
theorem dX6_init_8 : decode cX6_init 8 = .ok (.newarray .byte, 2) := by decide +kernel
theorem dX6_init_10 : decode cX6_init 10 = .ok (.putfield 9, 3) := by decide +kernel
theorem dX6_init_13 : decode cX6_init 13 = .ok (.aload_n 0, 1) := by decide +kernel
theorem dX6_init_14 : decode cX6_init 14 = .ok (.new 15, 3) := by decide +kernel
theorem dX6_init_17 : decode cX6_init 17 = .ok (.dup, 1) := by decide +kernel
theorem dX6_init_18 : decode cX6_init 18 = .ok (.invokespecial 17, 3) := by decide +kernel
theorem dX6_init_21 : decode cX6_init 21 = .ok (.putfield 18, 3) := by decide +kernel
theorem dX6_init_24 : decode cX6_init 24 = .ok (.return_, 1) := by decide +kernel
theorem dX6_append_0 : decode cX6_append 0 = .ok (.bipush 24, 2) := by decide +kernel
theorem dX6_append_2 : decode cX6_append 2 = .ok (.istore_n 2, 1) := by decide +kernel
theorem dX6_append_3 : decode cX6_append 3 = .ok (.iload_n 2, 1) := by decide +kernel
theorem dX6_append_4 : decode cX6_append 4 = .ok (.ifCond .lt 42, 3) := by decide +kernel
theorem dX6_append_7 : decode cX6_append 7 = .ok (.aload_n 0, 1) := by decide +kernel
theorem dX6_append_8 : decode cX6_append 8 = .ok (.getfield 22, 3) := by decide +kernel
theorem dX6_append_11 : decode cX6_append 11 = .ok (.sipush 600, 3) := by decide +kernel
theorem dX6_append_14 : decode cX6_append 14 = .ok (.if_icmp .ge 26, 3) := by decide +kernel
theorem dX6_append_17 : decode cX6_append 17 = .ok (.aload_n 0, 1) := by decide +kernel
theorem dX6_append_18 : decode cX6_append 18 = .ok (.getfield 9, 3) := by decide +kernel
theorem dX6_append_21 : decode cX6_append 21 = .ok (.aload_n 0, 1) := by decide +kernel
theorem dX6_append_22 : decode cX6_append 22 = .ok (.getfield 22, 3) := by decide +kernel
theorem dX6_append_25 : decode cX6_append 25 = .ok (.iload_n 1, 1) := by decide +kernel
theorem dX6_append_26 : decode cX6_append 26 = .ok (.iload_n 2, 1) := by decide +kernel
theorem dX6_append_27 : decode cX6_append 27 = .ok (.iushr, 1) := by decide +kernel
theorem dX6_append_28 : decode cX6_append 28 = .ok (.i2b, 1) := by decide +kernel
theorem dX6_append_29 : decode cX6_append 29 = .ok (.bastore, 1) := by decide +kernel
theorem dX6_append_30 : decode cX6_append 30 = .ok (.aload_n 0, 1) := by decide +kernel
theorem dX6_append_31 : decode cX6_append 31 = .ok (.dup, 1) := by decide +kernel
theorem dX6_append_32 : decode cX6_append 32 = .ok (.getfield 22, 3) := by decide +kernel
theorem dX6_append_35 : decode cX6_append 35 = .ok (.iconst 1, 1) := by decide +kernel
theorem dX6_append_36 : decode cX6_append 36 = .ok (.iadd, 1) := by decide +kernel
theorem dX6_append_37 : decode cX6_append 37 = .ok (.putfield 22, 3) := by decide +kernel
theorem dX6_append_40 : decode cX6_append 40 = .ok (.iinc 2 (-8), 3) := by decide +kernel
theorem dX6_append_43 : decode cX6_append 43 = .ok (.goto (-40), 3) := by decide +kernel
theorem dX6_append_46 : decode cX6_append 46 = .ok (.return_, 1) := by decide +kernel
theorem dX6_findFault_0 : decode cX6_findFault 0 = .ok (.aload_n 0, 1) := by decide +kernel
theorem dX6_findFault_1 : decode cX6_findFault 1 = .ok (.getfield 18, 3) := by decide +kernel
theorem dX6_findFault_4 : decode cX6_findFault 4 = .ok (.invokevirtual 26, 3) := by decide +kernel
theorem dX6_findFault_7 : decode cX6_findFault 7 = .ok (.aload_n 0, 1) := by decide +kernel
theorem dX6_findFault_8 : decode cX6_findFault 8 = .ok (.iconst 0, 1) := by decide +kernel
theorem dX6_findFault_9 : decode cX6_findFault 9 = .ok (.putfield 29, 3) := by decide +kernel
theorem dX6_findFault_12 : decode cX6_findFault 12 = .ok (.aload_n 0, 1) := by decide +kernel
theorem dX6_findFault_13 : decode cX6_findFault 13 = .ok (.iconst 1, 1) := by decide +kernel
theorem dX6_findFault_14 : decode cX6_findFault 14 = .ok (.putfield 32, 3) := by decide +kernel
theorem dX6_findFault_17 : decode cX6_findFault 17 = .ok (.aload_n 0, 1) := by decide +kernel
theorem dX6_findFault_18 : decode cX6_findFault 18 = .ok (.iconst 1, 1) := by decide +kernel
theorem dX6_findFault_19 : decode cX6_findFault 19 = .ok (.putfield 35, 3) := by decide +kernel
theorem dX6_findFault_22 : decode cX6_findFault 22 = .ok (.aload_n 0, 1) := by decide +kernel
theorem dX6_findFault_23 : decode cX6_findFault 23 = .ok (.iconst 0, 1) := by decide +kernel
theorem dX6_findFault_24 : decode cX6_findFault 24 = .ok (.putfield 38, 3) := by decide +kernel
theorem dX6_findFault_27 : decode cX6_findFault 27 = .ok (.aload_n 0, 1) := by decide +kernel
theorem dX6_findFault_28 : decode cX6_findFault 28 = .ok (.iconst 0, 1) := by decide +kernel
theorem dX6_findFault_29 : decode cX6_findFault 29 = .ok (.putfield 42, 3) := by decide +kernel
theorem dX6_findFault_32 : decode cX6_findFault 32 = .ok (.aload_n 0, 1) := by decide +kernel
theorem dX6_findFault_33 : decode cX6_findFault 33 = .ok (.invokevirtual 45, 3) := by decide +kernel
theorem dX6_findFault_36 : decode cX6_findFault 36 = .ok (.iconst 0, 1) := by decide +kernel
theorem dX6_findFault_37 : decode cX6_findFault 37 = .ok (.istore_n 1, 1) := by decide +kernel
theorem dX6_findFault_38 : decode cX6_findFault 38 = .ok (.iload_n 1, 1) := by decide +kernel
theorem dX6_findFault_39 : decode cX6_findFault 39 = .ok (.sipush 600, 3) := by decide +kernel
theorem dX6_findFault_42 : decode cX6_findFault 42 = .ok (.if_icmp .ge 28, 3) := by decide +kernel
theorem dX6_findFault_45 : decode cX6_findFault 45 = .ok (.aload_n 0, 1) := by decide +kernel
theorem dX6_findFault_46 : decode cX6_findFault 46 = .ok (.getfield 48, 3) := by decide +kernel
theorem dX6_findFault_49 : decode cX6_findFault 49 = .ok (.ifCond .eq 21, 3) := by decide +kernel
theorem dX6_findFault_52 : decode cX6_findFault 52 = .ok (.aload_n 0, 1) := by decide +kernel
theorem dX6_findFault_53 : decode cX6_findFault 53 = .ok (.invokevirtual 51, 3) := by decide +kernel
theorem dX6_findFault_56 : decode cX6_findFault 56 = .ok (.ifCond .ne 8, 3) := by decide +kernel
theorem dX6_findFault_59 : decode cX6_findFault 59 = .ok (.aload_n 0, 1) := by decide +kernel
theorem dX6_findFault_60 : decode cX6_findFault 60 = .ok (.getfield 55, 3) := by decide +kernel
theorem dX6_findFault_63 : decode cX6_findFault 63 = .ok (.ireturn, 1) := by decide +kernel
theorem dX6_findFault_64 : decode cX6_findFault 64 = .ok (.iinc 1 1, 3) := by decide +kernel
theorem dX6_findFault_67 : decode cX6_findFault 67 = .ok (.goto (-29), 3) := by decide +kernel
theorem dX6_findFault_70 : decode cX6_findFault 70 = .ok (.aload_n 0, 1) := by decide +kernel
theorem dX6_findFault_71 : decode cX6_findFault 71 = .ok (.getfield 48, 3) := by decide +kernel
theorem dX6_findFault_74 : decode cX6_findFault 74 = .ok (.ifCond .ne 17, 3) := by decide +kernel
theorem dX6_findFault_77 : decode cX6_findFault 77 = .ok (.aload_n 0, 1) := by decide +kernel
theorem dX6_findFault_78 : decode cX6_findFault 78 = .ok (.getfield 18, 3) := by decide +kernel
theorem dX6_findFault_81 : decode cX6_findFault 81 = .ok (.getfield 58, 3) := by decide +kernel
theorem dX6_findFault_84 : decode cX6_findFault 84 = .ok (.ifCond .le 7, 3) := by decide +kernel
theorem dX6_findFault_87 : decode cX6_findFault 87 = .ok (.iconst (-1), 1) := by decide +kernel
theorem dX6_findFault_88 : decode cX6_findFault 88 = .ok (.goto 7, 3) := by decide +kernel
theorem dX6_findFault_91 : decode cX6_findFault 91 = .ok (.aload_n 0, 1) := by decide +kernel
theorem dX6_findFault_92 : decode cX6_findFault 92 = .ok (.getfield 55, 3) := by decide +kernel
theorem dX6_findFault_95 : decode cX6_findFault 95 = .ok (.ireturn, 1) := by decide +kernel
theorem dX6_readOne_0 : decode cX6_readOne 0 = .ok (.aload_n 0, 1) := by decide +kernel
theorem dX6_readOne_1 : decode cX6_readOne 1 = .ok (.ldc 61, 2) := by decide +kernel
theorem dX6_readOne_3 : decode cX6_readOne 3 = .ok (.invokevirtual 63, 3) := by decide +kernel
theorem dX6_readOne_6 : decode cX6_readOne 6 = .ok (.ifCond .eq 8, 3) := by decide +kernel
theorem dX6_readOne_9 : decode cX6_readOne 9 = .ok (.aload_n 0, 1) := by decide +kernel
theorem dX6_readOne_10 : decode cX6_readOne 10 = .ok (.invokevirtual 67, 3) := by decide +kernel
theorem dX6_readOne_13 : decode cX6_readOne 13 = .ok (.ireturn, 1) := by decide +kernel
theorem dX6_readOne_14 : decode cX6_readOne 14 = .ok (.aload_n 0, 1) := by decide +kernel
theorem dX6_readOne_15 : decode cX6_readOne 15 = .ok (.ldc 70, 2) := by decide +kernel
theorem dX6_readOne_17 : decode cX6_readOne 17 = .ok (.invokevirtual 63, 3) := by decide +kernel
theorem dX6_readOne_20 : decode cX6_readOne 20 = .ok (.ifCond .eq 8, 3) := by decide +kernel
theorem dX6_readOne_23 : decode cX6_readOne 23 = .ok (.aload_n 0, 1) := by decide +kernel
theorem dX6_readOne_24 : decode cX6_readOne 24 = .ok (.invokevirtual 72, 3) := by decide +kernel
theorem dX6_readOne_27 : decode cX6_readOne 27 = .ok (.ireturn, 1) := by decide +kernel
theorem dX6_readOne_28 : decode cX6_readOne 28 = .ok (.aload_n 0, 1) := by decide +kernel
theorem dX6_readOne_29 : decode cX6_readOne 29 = .ok (.ldc 75, 2) := by decide +kernel
theorem dX6_readOne_31 : decode cX6_readOne 31 = .ok (.invokevirtual 63, 3) := by decide +kernel
theorem dX6_readOne_34 : decode cX6_readOne 34 = .ok (.ifCond .eq 8, 3) := by decide +kernel
theorem dX6_readOne_37 : decode cX6_readOne 37 = .ok (.aload_n 0, 1) := by decide +kernel
theorem dX6_readOne_38 : decode cX6_readOne 38 = .ok (.invokevirtual 77, 3) := by decide +kernel
theorem dX6_readOne_41 : decode cX6_readOne 41 = .ok (.ireturn, 1) := by decide +kernel
theorem dX6_readOne_42 : decode cX6_readOne 42 = .ok (.aload_n 0, 1) := by decide +kernel
theorem dX6_readOne_43 : decode cX6_readOne 43 = .ok (.ldc 80, 2) := by decide +kernel
theorem dX6_readOne_45 : decode cX6_readOne 45 = .ok (.invokevirtual 63, 3) := by decide +kernel
theorem dX6_readOne_48 : decode cX6_readOne 48 = .ok (.ifCond .eq 8, 3) := by decide +kernel
theorem dX6_readOne_51 : decode cX6_readOne 51 = .ok (.aload_n 0, 1) := by decide +kernel
theorem dX6_readOne_52 : decode cX6_readOne 52 = .ok (.invokevirtual 82, 3) := by decide +kernel
theorem dX6_readOne_55 : decode cX6_readOne 55 = .ok (.ireturn, 1) := by decide +kernel
theorem dX6_readOne_56 : decode cX6_readOne 56 = .ok (.aload_n 0, 1) := by decide +kernel
theorem dX6_readOne_57 : decode cX6_readOne 57 = .ok (.ldc 85, 2) := by decide +kernel
theorem dX6_readOne_59 : decode cX6_readOne 59 = .ok (.invokevirtual 63, 3) := by decide +kernel
theorem dX6_readOne_62 : decode cX6_readOne 62 = .ok (.ifCond .eq 14, 3) := by decide +kernel
theorem dX6_readOne_65 : decode cX6_readOne 65 = .ok (.aload_n 0, 1) := by decide +kernel
theorem dX6_readOne_66 : decode cX6_readOne 66 = .ok (.invokevirtual 87, 3) := by decide +kernel
theorem dX6_readOne_69 : decode cX6_readOne 69 = .ok (.ifCond .eq 7, 3) := by decide +kernel
theorem dX6_readOne_72 : decode cX6_readOne 72 = .ok (.iconst 1, 1) := by decide +kernel
theorem dX6_readOne_73 : decode cX6_readOne 73 = .ok (.goto 4, 3) := by decide +kernel
theorem dX6_readOne_76 : decode cX6_readOne 76 = .ok (.iconst 0, 1) := by decide +kernel
theorem dX6_readOne_77 : decode cX6_readOne 77 = .ok (.ireturn, 1) := by decide +kernel
theorem dX6_readNear_0 : decode cX6_readNear 0 = .ok (.aload_n 0, 1) := by decide +kernel
theorem dX6_readNear_1 : decode cX6_readNear 1 = .ok (.invokevirtual 45, 3) := by decide +kernel
theorem dX6_readNear_4 : decode cX6_readNear 4 = .ok (.aload_n 0, 1) := by decide +kernel
theorem dX6_readNear_5 : decode cX6_readNear 5 = .ok (.ldc 90, 2) := by decide +kernel
theorem dX6_readNear_7 : decode cX6_readNear 7 = .ok (.invokevirtual 63, 3) := by decide +kernel
theorem dX6_readNear_10 : decode cX6_readNear 10 = .ok (.ifCond .eq 11, 3) := by decide +kernel
theorem dX6_readNear_13 : decode cX6_readNear 13 = .ok (.aload_n 0, 1) := by decide +kernel
theorem dX6_readNear_14 : decode cX6_readNear 14 = .ok (.iconst 0, 1) := by decide +kernel
theorem dX6_readNear_15 : decode cX6_readNear 15 = .ok (.putfield 29, 3) := by decide +kernel
theorem dX6_readNear_18 : decode cX6_readNear 18 = .ok (.goto 56, 3) := by decide +kernel
theorem dX6_readNear_21 : decode cX6_readNear 21 = .ok (.aload_n 0, 1) := by decide +kernel
theorem dX6_readNear_22 : decode cX6_readNear 22 = .ok (.ldc 92, 2) := by decide +kernel
theorem dX6_readNear_24 : decode cX6_readNear 24 = .ok (.invokevirtual 63, 3) := by decide +kernel
theorem dX6_readNear_27 : decode cX6_readNear 27 = .ok (.ifCond .eq 11, 3) := by decide +kernel
theorem dX6_readNear_30 : decode cX6_readNear 30 = .ok (.aload_n 0, 1) := by decide +kernel
theorem dX6_readNear_31 : decode cX6_readNear 31 = .ok (.iconst 1, 1) := by decide +kernel
theorem dX6_readNear_32 : decode cX6_readNear 32 = .ok (.putfield 29, 3) := by decide +kernel
theorem dX6_readNear_35 : decode cX6_readNear 35 = .ok (.goto 39, 3) := by decide +kernel
theorem dX6_readNear_38 : decode cX6_readNear 38 = .ok (.aload_n 0, 1) := by decide +kernel
theorem dX6_readNear_39 : decode cX6_readNear 39 = .ok (.ldc 94, 2) := by decide +kernel
theorem dX6_readNear_41 : decode cX6_readNear 41 = .ok (.invokevirtual 63, 3) := by decide +kernel
theorem dX6_readNear_44 : decode cX6_readNear 44 = .ok (.ifCond .eq 11, 3) := by decide +kernel
theorem dX6_readNear_47 : decode cX6_readNear 47 = .ok (.aload_n 0, 1) := by decide +kernel
theorem dX6_readNear_48 : decode cX6_readNear 48 = .ok (.iconst 2, 1) := by decide +kernel
theorem dX6_readNear_49 : decode cX6_readNear 49 = .ok (.putfield 29, 3) := by decide +kernel
theorem dX6_readNear_52 : decode cX6_readNear 52 = .ok (.goto 22, 3) := by decide +kernel
theorem dX6_readNear_55 : decode cX6_readNear 55 = .ok (.aload_n 0, 1) := by decide +kernel
theorem dX6_readNear_56 : decode cX6_readNear 56 = .ok (.ldc 96, 2) := by decide +kernel
theorem dX6_readNear_58 : decode cX6_readNear 58 = .ok (.invokevirtual 63, 3) := by decide +kernel
theorem dX6_readNear_61 : decode cX6_readNear 61 = .ok (.ifCond .eq 11, 3) := by decide +kernel
theorem dX6_readNear_64 : decode cX6_readNear 64 = .ok (.aload_n 0, 1) := by decide +kernel
theorem dX6_readNear_65 : decode cX6_readNear 65 = .ok (.iconst 3, 1) := by decide +kernel
theorem dX6_readNear_66 : decode cX6_readNear 66 = .ok (.putfield 29, 3) := by decide +kernel
theorem dX6_readNear_69 : decode cX6_readNear 69 = .ok (.goto 5, 3) := by decide +kernel
theorem dX6_readNear_72 : decode cX6_readNear 72 = .ok (.iconst 0, 1) := by decide +kernel
theorem dX6_readNear_73 : decode cX6_readNear 73 = .ok (.ireturn, 1) := by decide +kernel
theorem dX6_readNear_74 : decode cX6_readNear 74 = .ok (.aload_n 0, 1) := by decide +kernel
theorem dX6_readNear_75 : decode cX6_readNear 75 = .ok (.invokevirtual 45, 3) := by decide +kernel
theorem dX6_readNear_78 : decode cX6_readNear 78 = .ok (.aload_n 0, 1) := by decide +kernel
theorem dX6_readNear_79 : decode cX6_readNear 79 = .ok (.invokevirtual 98, 3) := by decide +kernel
theorem dX6_readNear_82 : decode cX6_readNear 82 = .ok (.ireturn, 1) := by decide +kernel
theorem dX6_readStretch_0 : decode cX6_readStretch 0 = .ok (.aload_n 0, 1) := by decide +kernel
theorem dX6_readStretch_1 : decode cX6_readStretch 1 = .ok (.invokevirtual 45, 3) := by decide +kernel
theorem dX6_readStretch_4 : decode cX6_readStretch 4 = .ok (.aload_n 0, 1) := by decide +kernel
theorem dX6_readStretch_5 : decode cX6_readStretch 5 = .ok (.iconst 1, 1) := by decide +kernel
theorem dX6_readStretch_6 : decode cX6_readStretch 6 = .ok (.bipush 9, 2) := by decide +kernel
theorem dX6_readStretch_8 : decode cX6_readStretch 8 = .ok (.invokevirtual 101, 3) := by decide +kernel
theorem dX6_readStretch_11 : decode cX6_readStretch 11 = .ok (.ifCond .ne 5, 3) := by decide +kernel
theorem dX6_readStretch_14 : decode cX6_readStretch 14 = .ok (.iconst 0, 1) := by decide +kernel
theorem dX6_readStretch_15 : decode cX6_readStretch 15 = .ok (.ireturn, 1) := by decide +kernel
theorem dX6_readStretch_16 : decode cX6_readStretch 16 = .ok (.aload_n 0, 1) := by decide +kernel
theorem dX6_readStretch_17 : decode cX6_readStretch 17 = .ok (.aload_n 0, 1) := by decide +kernel
theorem dX6_readStretch_18 : decode cX6_readStretch 18 = .ok (.getfield 105, 3) := by decide +kernel
theorem dX6_readStretch_21 : decode cX6_readStretch 21 = .ok (.putfield 32, 3) := by decide +kernel
theorem dX6_readStretch_24 : decode cX6_readStretch 24 = .ok (.aload_n 0, 1) := by decide +kernel
theorem dX6_readStretch_25 : decode cX6_readStretch 25 = .ok (.invokevirtual 45, 3) := by decide +kernel
theorem dX6_readStretch_28 : decode cX6_readStretch 28 = .ok (.aload_n 0, 1) := by decide +kernel
theorem dX6_readStretch_29 : decode cX6_readStretch 29 = .ok (.iconst 1, 1) := by decide +kernel
theorem dX6_readStretch_30 : decode cX6_readStretch 30 = .ok (.bipush 9, 2) := by decide +kernel
theorem dX6_readStretch_32 : decode cX6_readStretch 32 = .ok (.invokevirtual 101, 3) := by decide +kernel
theorem dX6_readStretch_35 : decode cX6_readStretch 35 = .ok (.ifCond .ne 5, 3) := by decide +kernel
theorem dX6_readStretch_38 : decode cX6_readStretch 38 = .ok (.iconst 0, 1) := by decide +kernel
theorem dX6_readStretch_39 : decode cX6_readStretch 39 = .ok (.ireturn, 1) := by decide +kernel
theorem dX6_readStretch_40 : decode cX6_readStretch 40 = .ok (.aload_n 0, 1) := by decide +kernel
theorem dX6_readStretch_41 : decode cX6_readStretch 41 = .ok (.aload_n 0, 1) := by decide +kernel
theorem dX6_readStretch_42 : decode cX6_readStretch 42 = .ok (.getfield 105, 3) := by decide +kernel
theorem dX6_readStretch_45 : decode cX6_readStretch 45 = .ok (.putfield 35, 3) := by decide +kernel
theorem dX6_readStretch_48 : decode cX6_readStretch 48 = .ok (.aload_n 0, 1) := by decide +kernel
theorem dX6_readStretch_49 : decode cX6_readStretch 49 = .ok (.invokevirtual 45, 3) := by decide +kernel
theorem dX6_readStretch_52 : decode cX6_readStretch 52 = .ok (.aload_n 0, 1) := by decide +kernel
theorem dX6_readStretch_53 : decode cX6_readStretch 53 = .ok (.invokevirtual 98, 3) := by decide +kernel
theorem dX6_readStretch_56 : decode cX6_readStretch 56 = .ok (.ireturn, 1) := by decide +kernel
theorem dX6_readVoter_0 : decode cX6_readVoter 0 = .ok (.aload_n 0, 1) := by decide +kernel
theorem dX6_readVoter_1 : decode cX6_readVoter 1 = .ok (.getfield 18, 3) := by decide +kernel
theorem dX6_readVoter_4 : decode cX6_readVoter 4 = .ok (.getfield 58, 3) := by decide +kernel
theorem dX6_readVoter_7 : decode cX6_readVoter 7 = .ok (.bipush 15, 2) := by decide +kernel
theorem dX6_readVoter_9 : decode cX6_readVoter 9 = .ok (.if_icmp .lt 5, 3) := by decide +kernel
theorem dX6_readVoter_12 : decode cX6_readVoter 12 = .ok (.iconst 0, 1) := by decide +kernel
theorem dX6_readVoter_13 : decode cX6_readVoter 13 = .ok (.ireturn, 1) := by decide +kernel
theorem dX6_readVoter_14 : decode cX6_readVoter 14 = .ok (.aload_n 0, 1) := by decide +kernel
theorem dX6_readVoter_15 : decode cX6_readVoter 15 = .ok (.invokevirtual 45, 3) := by decide +kernel
theorem dX6_readVoter_18 : decode cX6_readVoter 18 = .ok (.aload_n 0, 1) := by decide +kernel
theorem dX6_readVoter_19 : decode cX6_readVoter 19 = .ok (.iconst 0, 1) := by decide +kernel
theorem dX6_readVoter_20 : decode cX6_readVoter 20 = .ok (.bipush 99, 2) := by decide +kernel
theorem dX6_readVoter_22 : decode cX6_readVoter 22 = .ok (.invokevirtual 101, 3) := by decide +kernel
theorem dX6_readVoter_25 : decode cX6_readVoter 25 = .ok (.ifCond .ne 5, 3) := by decide +kernel
theorem dX6_readVoter_28 : decode cX6_readVoter 28 = .ok (.iconst 0, 1) := by decide +kernel
theorem dX6_readVoter_29 : decode cX6_readVoter 29 = .ok (.ireturn, 1) := by decide +kernel
theorem dX6_readVoter_30 : decode cX6_readVoter 30 = .ok (.aload_n 0, 1) := by decide +kernel
theorem dX6_readVoter_31 : decode cX6_readVoter 31 = .ok (.getfield 105, 3) := by decide +kernel
theorem dX6_readVoter_34 : decode cX6_readVoter 34 = .ok (.istore_n 1, 1) := by decide +kernel
theorem dX6_readVoter_35 : decode cX6_readVoter 35 = .ok (.aload_n 0, 1) := by decide +kernel
theorem dX6_readVoter_36 : decode cX6_readVoter 36 = .ok (.invokevirtual 45, 3) := by decide +kernel
theorem dX6_readVoter_39 : decode cX6_readVoter 39 = .ok (.aload_n 0, 1) := by decide +kernel
theorem dX6_readVoter_40 : decode cX6_readVoter 40 = .ok (.iconst 0, 1) := by decide +kernel
theorem dX6_readVoter_41 : decode cX6_readVoter 41 = .ok (.bipush 99, 2) := by decide +kernel
theorem dX6_readVoter_43 : decode cX6_readVoter 43 = .ok (.invokevirtual 101, 3) := by decide +kernel
theorem dX6_readVoter_46 : decode cX6_readVoter 46 = .ok (.ifCond .ne 5, 3) := by decide +kernel
theorem dX6_readVoter_49 : decode cX6_readVoter 49 = .ok (.iconst 0, 1) := by decide +kernel
theorem dX6_readVoter_50 : decode cX6_readVoter 50 = .ok (.ireturn, 1) := by decide +kernel
theorem dX6_readVoter_51 : decode cX6_readVoter 51 = .ok (.aload_n 0, 1) := by decide +kernel
theorem dX6_readVoter_52 : decode cX6_readVoter 52 = .ok (.getfield 105, 3) := by decide +kernel
theorem dX6_readVoter_55 : decode cX6_readVoter 55 = .ok (.istore_n 2, 1) := by decide +kernel
theorem dX6_readVoter_56 : decode cX6_readVoter 56 = .ok (.iconst 1, 1) := by decide +kernel
theorem dX6_readVoter_57 : decode cX6_readVoter 57 = .ok (.istore_n 3, 1) := by decide +kernel
theorem dX6_readVoter_58 : decode cX6_readVoter 58 = .ok (.aload_n 0, 1) := by decide +kernel
theorem dX6_readVoter_59 : decode cX6_readVoter 59 = .ok (.invokevirtual 45, 3) := by decide +kernel
theorem dX6_readVoter_62 : decode cX6_readVoter 62 = .ok (.aload_n 0, 1) := by decide +kernel
theorem dX6_readVoter_63 : decode cX6_readVoter 63 = .ok (.ldc 108, 2) := by decide +kernel
theorem dX6_readVoter_65 : decode cX6_readVoter 65 = .ok (.invokevirtual 63, 3) := by decide +kernel
theorem dX6_readVoter_68 : decode cX6_readVoter 68 = .ok (.ifCond .eq 28, 3) := by decide +kernel
theorem dX6_readVoter_71 : decode cX6_readVoter 71 = .ok (.aload_n 0, 1) := by decide +kernel
theorem dX6_readVoter_72 : decode cX6_readVoter 72 = .ok (.invokevirtual 45, 3) := by decide +kernel
theorem dX6_readVoter_75 : decode cX6_readVoter 75 = .ok (.aload_n 0, 1) := by decide +kernel
theorem dX6_readVoter_76 : decode cX6_readVoter 76 = .ok (.iconst 1, 1) := by decide +kernel
theorem dX6_readVoter_77 : decode cX6_readVoter 77 = .ok (.bipush 9, 2) := by decide +kernel
theorem dX6_readVoter_79 : decode cX6_readVoter 79 = .ok (.invokevirtual 101, 3) := by decide +kernel
theorem dX6_readVoter_82 : decode cX6_readVoter 82 = .ok (.ifCond .ne 5, 3) := by decide +kernel
theorem dX6_readVoter_85 : decode cX6_readVoter 85 = .ok (.iconst 0, 1) := by decide +kernel
theorem dX6_readVoter_86 : decode cX6_readVoter 86 = .ok (.ireturn, 1) := by decide +kernel
theorem dX6_readVoter_87 : decode cX6_readVoter 87 = .ok (.aload_n 0, 1) := by decide +kernel
theorem dX6_readVoter_88 : decode cX6_readVoter 88 = .ok (.getfield 105, 3) := by decide +kernel
theorem dX6_readVoter_91 : decode cX6_readVoter 91 = .ok (.istore_n 3, 1) := by decide +kernel
theorem dX6_readVoter_92 : decode cX6_readVoter 92 = .ok (.aload_n 0, 1) := by decide +kernel
theorem dX6_readVoter_93 : decode cX6_readVoter 93 = .ok (.invokevirtual 45, 3) := by decide +kernel
theorem dX6_readVoter_96 : decode cX6_readVoter 96 = .ok (.aload_n 0, 1) := by decide +kernel
theorem dX6_readVoter_97 : decode cX6_readVoter 97 = .ok (.getfield 18, 3) := by decide +kernel
theorem dX6_readVoter_100 : decode cX6_readVoter 100 = .ok (.iload_n 1, 1) := by decide +kernel
theorem dX6_readVoter_101 : decode cX6_readVoter 101 = .ok (.iload_n 2, 1) := by decide +kernel
theorem dX6_readVoter_102 : decode cX6_readVoter 102 = .ok (.iload_n 3, 1) := by decide +kernel
theorem dX6_readVoter_103 : decode cX6_readVoter 103 = .ok (.aload_n 0, 1) := by decide +kernel
theorem dX6_readVoter_104 : decode cX6_readVoter 104 = .ok (.getfield 29, 3) := by decide +kernel
theorem dX6_readVoter_107 : decode cX6_readVoter 107 = .ok (.aload_n 0, 1) := by decide +kernel
theorem dX6_readVoter_108 : decode cX6_readVoter 108 = .ok (.getfield 32, 3) := by decide +kernel
theorem dX6_readVoter_111 : decode cX6_readVoter 111 = .ok (.aload_n 0, 1) := by decide +kernel
theorem dX6_readVoter_112 : decode cX6_readVoter 112 = .ok (.getfield 35, 3) := by decide +kernel
theorem dX6_readVoter_115 : decode cX6_readVoter 115 = .ok (.invokevirtual 110, 3) := by decide +kernel
theorem dX6_readVoter_118 : decode cX6_readVoter 118 = .ok (.aload_n 0, 1) := by decide +kernel
theorem dX6_readVoter_119 : decode cX6_readVoter 119 = .ok (.invokevirtual 98, 3) := by decide +kernel
theorem dX6_readVoter_122 : decode cX6_readVoter 122 = .ok (.ireturn, 1) := by decide +kernel
theorem dX6_readPlace_0 : decode cX6_readPlace 0 = .ok (.aload_n 0, 1) := by decide +kernel
theorem dX6_readPlace_1 : decode cX6_readPlace 1 = .ok (.getfield 18, 3) := by decide +kernel
theorem dX6_readPlace_4 : decode cX6_readPlace 4 = .ok (.getfield 114, 3) := by decide +kernel
theorem dX6_readPlace_7 : decode cX6_readPlace 7 = .ok (.bipush 20, 2) := by decide +kernel
theorem dX6_readPlace_9 : decode cX6_readPlace 9 = .ok (.if_icmp .lt 5, 3) := by decide +kernel
theorem dX6_readPlace_12 : decode cX6_readPlace 12 = .ok (.iconst 0, 1) := by decide +kernel
theorem dX6_readPlace_13 : decode cX6_readPlace 13 = .ok (.ireturn, 1) := by decide +kernel
theorem dX6_readPlace_14 : decode cX6_readPlace 14 = .ok (.aload_n 0, 1) := by decide +kernel
theorem dX6_readPlace_15 : decode cX6_readPlace 15 = .ok (.invokevirtual 45, 3) := by decide +kernel
theorem dX6_readPlace_18 : decode cX6_readPlace 18 = .ok (.aload_n 0, 1) := by decide +kernel
theorem dX6_readPlace_19 : decode cX6_readPlace 19 = .ok (.iconst 0, 1) := by decide +kernel
theorem dX6_readPlace_20 : decode cX6_readPlace 20 = .ok (.bipush 99, 2) := by decide +kernel
theorem dX6_readPlace_22 : decode cX6_readPlace 22 = .ok (.invokevirtual 101, 3) := by decide +kernel
theorem dX6_readPlace_25 : decode cX6_readPlace 25 = .ok (.ifCond .ne 5, 3) := by decide +kernel
theorem dX6_readPlace_28 : decode cX6_readPlace 28 = .ok (.iconst 0, 1) := by decide +kernel
theorem dX6_readPlace_29 : decode cX6_readPlace 29 = .ok (.ireturn, 1) := by decide +kernel
theorem dX6_readPlace_30 : decode cX6_readPlace 30 = .ok (.aload_n 0, 1) := by decide +kernel
theorem dX6_readPlace_31 : decode cX6_readPlace 31 = .ok (.getfield 105, 3) := by decide +kernel
theorem dX6_readPlace_34 : decode cX6_readPlace 34 = .ok (.istore_n 1, 1) := by decide +kernel
theorem dX6_readPlace_35 : decode cX6_readPlace 35 = .ok (.aload_n 0, 1) := by decide +kernel
theorem dX6_readPlace_36 : decode cX6_readPlace 36 = .ok (.invokevirtual 45, 3) := by decide +kernel
theorem dX6_readPlace_39 : decode cX6_readPlace 39 = .ok (.aload_n 0, 1) := by decide +kernel
theorem dX6_readPlace_40 : decode cX6_readPlace 40 = .ok (.iconst 0, 1) := by decide +kernel
theorem dX6_readPlace_41 : decode cX6_readPlace 41 = .ok (.bipush 99, 2) := by decide +kernel
theorem dX6_readPlace_43 : decode cX6_readPlace 43 = .ok (.invokevirtual 101, 3) := by decide +kernel
theorem dX6_readPlace_46 : decode cX6_readPlace 46 = .ok (.ifCond .ne 5, 3) := by decide +kernel
theorem dX6_readPlace_49 : decode cX6_readPlace 49 = .ok (.iconst 0, 1) := by decide +kernel
theorem dX6_readPlace_50 : decode cX6_readPlace 50 = .ok (.ireturn, 1) := by decide +kernel
theorem dX6_readPlace_51 : decode cX6_readPlace 51 = .ok (.aload_n 0, 1) := by decide +kernel
theorem dX6_readPlace_52 : decode cX6_readPlace 52 = .ok (.getfield 18, 3) := by decide +kernel
theorem dX6_readPlace_55 : decode cX6_readPlace 55 = .ok (.iload_n 1, 1) := by decide +kernel
theorem dX6_readPlace_56 : decode cX6_readPlace 56 = .ok (.aload_n 0, 1) := by decide +kernel
theorem dX6_readPlace_57 : decode cX6_readPlace 57 = .ok (.getfield 105, 3) := by decide +kernel
theorem dX6_readPlace_60 : decode cX6_readPlace 60 = .ok (.invokevirtual 117, 3) := by decide +kernel
theorem dX6_readPlace_63 : decode cX6_readPlace 63 = .ok (.aload_n 0, 1) := by decide +kernel
theorem dX6_readPlace_64 : decode cX6_readPlace 64 = .ok (.invokevirtual 45, 3) := by decide +kernel
theorem dX6_readPlace_67 : decode cX6_readPlace 67 = .ok (.aload_n 0, 1) := by decide +kernel
theorem dX6_readPlace_68 : decode cX6_readPlace 68 = .ok (.invokevirtual 98, 3) := by decide +kernel
theorem dX6_readPlace_71 : decode cX6_readPlace 71 = .ok (.ireturn, 1) := by decide +kernel
theorem dX6_readBar_0 : decode cX6_readBar 0 = .ok (.aload_n 0, 1) := by decide +kernel
theorem dX6_readBar_1 : decode cX6_readBar 1 = .ok (.getfield 38, 3) := by decide +kernel
theorem dX6_readBar_4 : decode cX6_readBar 4 = .ok (.ifCond .eq 5, 3) := by decide +kernel
theorem dX6_readBar_7 : decode cX6_readBar 7 = .ok (.iconst 0, 1) := by decide +kernel
theorem dX6_readBar_8 : decode cX6_readBar 8 = .ok (.ireturn, 1) := by decide +kernel
theorem dX6_readBar_9 : decode cX6_readBar 9 = .ok (.aload_n 0, 1) := by decide +kernel
theorem dX6_readBar_10 : decode cX6_readBar 10 = .ok (.iconst 1, 1) := by decide +kernel
theorem dX6_readBar_11 : decode cX6_readBar 11 = .ok (.putfield 38, 3) := by decide +kernel
theorem dX6_readBar_14 : decode cX6_readBar 14 = .ok (.aload_n 0, 1) := by decide +kernel
theorem dX6_readBar_15 : decode cX6_readBar 15 = .ok (.invokevirtual 45, 3) := by decide +kernel
theorem dX6_readBar_18 : decode cX6_readBar 18 = .ok (.aload_n 0, 1) := by decide +kernel
theorem dX6_readBar_19 : decode cX6_readBar 19 = .ok (.ldc 121, 2) := by decide +kernel
theorem dX6_readBar_21 : decode cX6_readBar 21 = .ok (.invokevirtual 63, 3) := by decide +kernel
theorem dX6_readBar_24 : decode cX6_readBar 24 = .ok (.ifCond .eq 12, 3) := by decide +kernel
theorem dX6_readBar_27 : decode cX6_readBar 27 = .ok (.aload_n 0, 1) := by decide +kernel
theorem dX6_readBar_28 : decode cX6_readBar 28 = .ok (.invokevirtual 45, 3) := by decide +kernel
theorem dX6_readBar_31 : decode cX6_readBar 31 = .ok (.aload_n 0, 1) := by decide +kernel
theorem dX6_readBar_32 : decode cX6_readBar 32 = .ok (.invokevirtual 98, 3) := by decide +kernel
theorem dX6_readBar_35 : decode cX6_readBar 35 = .ok (.ireturn, 1) := by decide +kernel
theorem dX6_readBar_36 : decode cX6_readBar 36 = .ok (.aload_n 0, 1) := by decide +kernel
theorem dX6_readBar_37 : decode cX6_readBar 37 = .ok (.ldc 123, 2) := by decide +kernel
theorem dX6_readBar_39 : decode cX6_readBar 39 = .ok (.invokevirtual 63, 3) := by decide +kernel
theorem dX6_readBar_42 : decode cX6_readBar 42 = .ok (.ifCond .eq 14, 3) := by decide +kernel
theorem dX6_readBar_45 : decode cX6_readBar 45 = .ok (.aload_n 0, 1) := by decide +kernel
theorem dX6_readBar_46 : decode cX6_readBar 46 = .ok (.getfield 18, 3) := by decide +kernel
theorem dX6_readBar_49 : decode cX6_readBar 49 = .ok (.iconst 1, 1) := by decide +kernel
theorem dX6_readBar_50 : decode cX6_readBar 50 = .ok (.putfield 125, 3) := by decide +kernel
theorem dX6_readBar_53 : decode cX6_readBar 53 = .ok (.goto 25, 3) := by decide +kernel
theorem dX6_readBar_56 : decode cX6_readBar 56 = .ok (.aload_n 0, 1) := by decide +kernel
theorem dX6_readBar_57 : decode cX6_readBar 57 = .ok (.ldc 128, 2) := by decide +kernel
theorem dX6_readBar_59 : decode cX6_readBar 59 = .ok (.invokevirtual 63, 3) := by decide +kernel
theorem dX6_readBar_62 : decode cX6_readBar 62 = .ok (.ifCond .eq 14, 3) := by decide +kernel
theorem dX6_readBar_65 : decode cX6_readBar 65 = .ok (.aload_n 0, 1) := by decide +kernel
theorem dX6_readBar_66 : decode cX6_readBar 66 = .ok (.getfield 18, 3) := by decide +kernel
theorem dX6_readBar_69 : decode cX6_readBar 69 = .ok (.iconst 2, 1) := by decide +kernel
theorem dX6_readBar_70 : decode cX6_readBar 70 = .ok (.putfield 125, 3) := by decide +kernel
theorem dX6_readBar_73 : decode cX6_readBar 73 = .ok (.goto 5, 3) := by decide +kernel
theorem dX6_readBar_76 : decode cX6_readBar 76 = .ok (.iconst 0, 1) := by decide +kernel
theorem dX6_readBar_77 : decode cX6_readBar 77 = .ok (.ireturn, 1) := by decide +kernel
theorem dX6_readBar_78 : decode cX6_readBar 78 = .ok (.aload_n 0, 1) := by decide +kernel
theorem dX6_readBar_79 : decode cX6_readBar 79 = .ok (.invokevirtual 45, 3) := by decide +kernel
theorem dX6_readBar_82 : decode cX6_readBar 82 = .ok (.aload_n 0, 1) := by decide +kernel
theorem dX6_readBar_83 : decode cX6_readBar 83 = .ok (.invokevirtual 130, 3) := by decide +kernel
theorem dX6_readBar_86 : decode cX6_readBar 86 = .ok (.ifCond .eq 14, 3) := by decide +kernel
theorem dX6_readBar_89 : decode cX6_readBar 89 = .ok (.aload_n 0, 1) := by decide +kernel
theorem dX6_readBar_90 : decode cX6_readBar 90 = .ok (.invokevirtual 98, 3) := by decide +kernel
theorem dX6_readBar_93 : decode cX6_readBar 93 = .ok (.ifCond .eq 7, 3) := by decide +kernel
theorem dX6_readBar_96 : decode cX6_readBar 96 = .ok (.iconst 1, 1) := by decide +kernel
theorem dX6_readBar_97 : decode cX6_readBar 97 = .ok (.goto 4, 3) := by decide +kernel
theorem dX6_readBar_100 : decode cX6_readBar 100 = .ok (.iconst 0, 1) := by decide +kernel
theorem dX6_readBar_101 : decode cX6_readBar 101 = .ok (.ireturn, 1) := by decide +kernel
theorem dX6_readShare_0 : decode cX6_readShare 0 = .ok (.aload_n 0, 1) := by decide +kernel
theorem dX6_readShare_1 : decode cX6_readShare 1 = .ok (.iconst 1, 1) := by decide +kernel
theorem dX6_readShare_2 : decode cX6_readShare 2 = .ok (.bipush 99, 2) := by decide +kernel
theorem dX6_readShare_4 : decode cX6_readShare 4 = .ok (.invokevirtual 101, 3) := by decide +kernel
theorem dX6_readShare_7 : decode cX6_readShare 7 = .ok (.ifCond .ne 5, 3) := by decide +kernel
theorem dX6_readShare_10 : decode cX6_readShare 10 = .ok (.iconst 0, 1) := by decide +kernel
theorem dX6_readShare_11 : decode cX6_readShare 11 = .ok (.ireturn, 1) := by decide +kernel
theorem dX6_readShare_12 : decode cX6_readShare 12 = .ok (.aload_n 0, 1) := by decide +kernel
theorem dX6_readShare_13 : decode cX6_readShare 13 = .ok (.getfield 18, 3) := by decide +kernel
theorem dX6_readShare_16 : decode cX6_readShare 16 = .ok (.aload_n 0, 1) := by decide +kernel
theorem dX6_readShare_17 : decode cX6_readShare 17 = .ok (.getfield 105, 3) := by decide +kernel
theorem dX6_readShare_20 : decode cX6_readShare 20 = .ok (.putfield 133, 3) := by decide +kernel
theorem dX6_readShare_23 : decode cX6_readShare 23 = .ok (.aload_n 0, 1) := by decide +kernel
theorem dX6_readShare_24 : decode cX6_readShare 24 = .ok (.invokevirtual 45, 3) := by decide +kernel
theorem dX6_readShare_27 : decode cX6_readShare 27 = .ok (.aload_n 0, 1) := by decide +kernel
theorem dX6_readShare_28 : decode cX6_readShare 28 = .ok (.getfield 48, 3) := by decide +kernel
theorem dX6_readShare_31 : decode cX6_readShare 31 = .ok (.iconst 4, 1) := by decide +kernel
theorem dX6_readShare_32 : decode cX6_readShare 32 = .ok (.if_icmp .eq 5, 3) := by decide +kernel
theorem dX6_readShare_35 : decode cX6_readShare 35 = .ok (.iconst 0, 1) := by decide +kernel
theorem dX6_readShare_36 : decode cX6_readShare 36 = .ok (.ireturn, 1) := by decide +kernel
theorem dX6_readShare_37 : decode cX6_readShare 37 = .ok (.aload_n 0, 1) := by decide +kernel
theorem dX6_readShare_38 : decode cX6_readShare 38 = .ok (.invokevirtual 45, 3) := by decide +kernel
theorem dX6_readShare_41 : decode cX6_readShare 41 = .ok (.aload_n 0, 1) := by decide +kernel
theorem dX6_readShare_42 : decode cX6_readShare 42 = .ok (.iconst 1, 1) := by decide +kernel
theorem dX6_readShare_43 : decode cX6_readShare 43 = .ok (.bipush 99, 2) := by decide +kernel
theorem dX6_readShare_45 : decode cX6_readShare 45 = .ok (.invokevirtual 101, 3) := by decide +kernel
theorem dX6_readShare_48 : decode cX6_readShare 48 = .ok (.ifCond .eq 33, 3) := by decide +kernel
theorem dX6_readShare_51 : decode cX6_readShare 51 = .ok (.aload_n 0, 1) := by decide +kernel
theorem dX6_readShare_52 : decode cX6_readShare 52 = .ok (.getfield 18, 3) := by decide +kernel
theorem dX6_readShare_55 : decode cX6_readShare 55 = .ok (.getfield 133, 3) := by decide +kernel
theorem dX6_readShare_58 : decode cX6_readShare 58 = .ok (.aload_n 0, 1) := by decide +kernel
theorem dX6_readShare_59 : decode cX6_readShare 59 = .ok (.getfield 105, 3) := by decide +kernel
theorem dX6_readShare_62 : decode cX6_readShare 62 = .ok (.if_icmp .gt 19, 3) := by decide +kernel
theorem dX6_readShare_65 : decode cX6_readShare 65 = .ok (.iconst 2, 1) := by decide +kernel
theorem dX6_readShare_66 : decode cX6_readShare 66 = .ok (.aload_n 0, 1) := by decide +kernel
theorem dX6_readShare_67 : decode cX6_readShare 67 = .ok (.getfield 18, 3) := by decide +kernel
theorem dX6_readShare_70 : decode cX6_readShare 70 = .ok (.getfield 133, 3) := by decide +kernel
theorem dX6_readShare_73 : decode cX6_readShare 73 = .ok (.imul, 1) := by decide +kernel
theorem dX6_readShare_74 : decode cX6_readShare 74 = .ok (.aload_n 0, 1) := by decide +kernel
theorem dX6_readShare_75 : decode cX6_readShare 75 = .ok (.getfield 105, 3) := by decide +kernel
theorem dX6_readShare_78 : decode cX6_readShare 78 = .ok (.if_icmp .ge 5, 3) := by decide +kernel
theorem dX6_readShare_81 : decode cX6_readShare 81 = .ok (.iconst 0, 1) := by decide +kernel
theorem dX6_readShare_82 : decode cX6_readShare 82 = .ok (.ireturn, 1) := by decide +kernel
theorem dX6_readShare_83 : decode cX6_readShare 83 = .ok (.aload_n 0, 1) := by decide +kernel
theorem dX6_readShare_84 : decode cX6_readShare 84 = .ok (.getfield 18, 3) := by decide +kernel
theorem dX6_readShare_87 : decode cX6_readShare 87 = .ok (.aload_n 0, 1) := by decide +kernel
theorem dX6_readShare_88 : decode cX6_readShare 88 = .ok (.getfield 105, 3) := by decide +kernel
theorem dX6_readShare_91 : decode cX6_readShare 91 = .ok (.putfield 136, 3) := by decide +kernel
theorem dX6_readShare_94 : decode cX6_readShare 94 = .ok (.aload_n 0, 1) := by decide +kernel
theorem dX6_readShare_95 : decode cX6_readShare 95 = .ok (.invokevirtual 45, 3) := by decide +kernel
theorem dX6_readShare_98 : decode cX6_readShare 98 = .ok (.iconst 1, 1) := by decide +kernel
theorem dX6_readShare_99 : decode cX6_readShare 99 = .ok (.ireturn, 1) := by decide +kernel
theorem dX6_passSemicolon_0 : decode cX6_passSemicolon 0 = .ok (.aload_n 0, 1) := by decide +kernel
theorem dX6_passSemicolon_1 : decode cX6_passSemicolon 1 = .ok (.getfield 48, 3) := by decide +kernel
theorem dX6_passSemicolon_4 : decode cX6_passSemicolon 4 = .ok (.iconst 5, 1) := by decide +kernel
theorem dX6_passSemicolon_5 : decode cX6_passSemicolon 5 = .ok (.if_icmp .eq 5, 3) := by decide +kernel
theorem dX6_passSemicolon_8 : decode cX6_passSemicolon 8 = .ok (.iconst 0, 1) := by decide +kernel
theorem dX6_passSemicolon_9 : decode cX6_passSemicolon 9 = .ok (.ireturn, 1) := by decide +kernel
theorem dX6_passSemicolon_10 : decode cX6_passSemicolon 10 = .ok (.aload_n 0, 1) := by decide +kernel
theorem dX6_passSemicolon_11 : decode cX6_passSemicolon 11 = .ok (.invokevirtual 45, 3) := by decide +kernel
theorem dX6_passSemicolon_14 : decode cX6_passSemicolon 14 = .ok (.iconst 1, 1) := by decide +kernel
theorem dX6_passSemicolon_15 : decode cX6_passSemicolon 15 = .ok (.ireturn, 1) := by decide +kernel
theorem dX6_isNumber_0 : decode cX6_isNumber 0 = .ok (.aload_n 0, 1) := by decide +kernel
theorem dX6_isNumber_1 : decode cX6_isNumber 1 = .ok (.getfield 48, 3) := by decide +kernel
theorem dX6_isNumber_4 : decode cX6_isNumber 4 = .ok (.iconst 3, 1) := by decide +kernel
theorem dX6_isNumber_5 : decode cX6_isNumber 5 = .ok (.if_icmp .ne 23, 3) := by decide +kernel
theorem dX6_isNumber_8 : decode cX6_isNumber 8 = .ok (.aload_n 0, 1) := by decide +kernel
theorem dX6_isNumber_9 : decode cX6_isNumber 9 = .ok (.getfield 105, 3) := by decide +kernel
theorem dX6_isNumber_12 : decode cX6_isNumber 12 = .ok (.iload_n 1, 1) := by decide +kernel
theorem dX6_isNumber_13 : decode cX6_isNumber 13 = .ok (.if_icmp .lt 15, 3) := by decide +kernel
theorem dX6_isNumber_16 : decode cX6_isNumber 16 = .ok (.aload_n 0, 1) := by decide +kernel
theorem dX6_isNumber_17 : decode cX6_isNumber 17 = .ok (.getfield 105, 3) := by decide +kernel
theorem dX6_isNumber_20 : decode cX6_isNumber 20 = .ok (.iload_n 2, 1) := by decide +kernel
theorem dX6_isNumber_21 : decode cX6_isNumber 21 = .ok (.if_icmp .gt 7, 3) := by decide +kernel
theorem dX6_isNumber_24 : decode cX6_isNumber 24 = .ok (.iconst 1, 1) := by decide +kernel
theorem dX6_isNumber_25 : decode cX6_isNumber 25 = .ok (.goto 4, 3) := by decide +kernel
theorem dX6_isNumber_28 : decode cX6_isNumber 28 = .ok (.iconst 0, 1) := by decide +kernel
theorem dX6_isNumber_29 : decode cX6_isNumber 29 = .ok (.ireturn, 1) := by decide +kernel
theorem dX6_isWord_0 : decode cX6_isWord 0 = .ok (.aload_n 0, 1) := by decide +kernel
theorem dX6_isWord_1 : decode cX6_isWord 1 = .ok (.getfield 48, 3) := by decide +kernel
theorem dX6_isWord_4 : decode cX6_isWord 4 = .ok (.iconst 2, 1) := by decide +kernel
theorem dX6_isWord_5 : decode cX6_isWord 5 = .ok (.if_icmp .ne 19, 3) := by decide +kernel
theorem dX6_isWord_8 : decode cX6_isWord 8 = .ok (.aload_n 0, 1) := by decide +kernel
theorem dX6_isWord_9 : decode cX6_isWord 9 = .ok (.getfield 42, 3) := by decide +kernel
theorem dX6_isWord_12 : decode cX6_isWord 12 = .ok (.aload_n 0, 1) := by decide +kernel
theorem dX6_isWord_13 : decode cX6_isWord 13 = .ok (.getfield 55, 3) := by decide +kernel
theorem dX6_isWord_16 : decode cX6_isWord 16 = .ok (.isub, 1) := by decide +kernel
theorem dX6_isWord_17 : decode cX6_isWord 17 = .ok (.aload_n 1, 1) := by decide +kernel
theorem dX6_isWord_18 : decode cX6_isWord 18 = .ok (.invokevirtual 139, 3) := by decide +kernel
theorem dX6_isWord_21 : decode cX6_isWord 21 = .ok (.if_icmp .eq 5, 3) := by decide +kernel
theorem dX6_isWord_24 : decode cX6_isWord 24 = .ok (.iconst 0, 1) := by decide +kernel
theorem dX6_isWord_25 : decode cX6_isWord 25 = .ok (.ireturn, 1) := by decide +kernel
theorem dX6_isWord_26 : decode cX6_isWord 26 = .ok (.iconst 0, 1) := by decide +kernel
theorem dX6_isWord_27 : decode cX6_isWord 27 = .ok (.istore_n 2, 1) := by decide +kernel
theorem dX6_isWord_28 : decode cX6_isWord 28 = .ok (.iload_n 2, 1) := by decide +kernel
theorem dX6_isWord_29 : decode cX6_isWord 29 = .ok (.aload_n 1, 1) := by decide +kernel
theorem dX6_isWord_30 : decode cX6_isWord 30 = .ok (.invokevirtual 139, 3) := by decide +kernel
theorem dX6_isWord_33 : decode cX6_isWord 33 = .ok (.if_icmp .ge 30, 3) := by decide +kernel
theorem dX6_isWord_36 : decode cX6_isWord 36 = .ok (.aload_n 0, 1) := by decide +kernel
theorem dX6_isWord_37 : decode cX6_isWord 37 = .ok (.getfield 9, 3) := by decide +kernel
theorem dX6_isWord_40 : decode cX6_isWord 40 = .ok (.aload_n 0, 1) := by decide +kernel
theorem dX6_isWord_41 : decode cX6_isWord 41 = .ok (.getfield 55, 3) := by decide +kernel
theorem dX6_isWord_44 : decode cX6_isWord 44 = .ok (.iload_n 2, 1) := by decide +kernel
theorem dX6_isWord_45 : decode cX6_isWord 45 = .ok (.iadd, 1) := by decide +kernel
theorem dX6_isWord_46 : decode cX6_isWord 46 = .ok (.baload, 1) := by decide +kernel
theorem dX6_isWord_47 : decode cX6_isWord 47 = .ok (.aload_n 1, 1) := by decide +kernel
theorem dX6_isWord_48 : decode cX6_isWord 48 = .ok (.iload_n 2, 1) := by decide +kernel
theorem dX6_isWord_49 : decode cX6_isWord 49 = .ok (.invokevirtual 144, 3) := by decide +kernel
theorem dX6_isWord_52 : decode cX6_isWord 52 = .ok (.if_icmp .eq 5, 3) := by decide +kernel
theorem dX6_isWord_55 : decode cX6_isWord 55 = .ok (.iconst 0, 1) := by decide +kernel
theorem dX6_isWord_56 : decode cX6_isWord 56 = .ok (.ireturn, 1) := by decide +kernel
theorem dX6_isWord_57 : decode cX6_isWord 57 = .ok (.iinc 2 1, 3) := by decide +kernel
theorem dX6_isWord_60 : decode cX6_isWord 60 = .ok (.goto (-32), 3) := by decide +kernel
theorem dX6_isWord_63 : decode cX6_isWord 63 = .ok (.iconst 1, 1) := by decide +kernel
theorem dX6_isWord_64 : decode cX6_isWord 64 = .ok (.ireturn, 1) := by decide +kernel
theorem dX6_next_0 : decode cX6_next 0 = .ok (.aload_n 0, 1) := by decide +kernel
theorem dX6_next_1 : decode cX6_next 1 = .ok (.aload_n 0, 1) := by decide +kernel
theorem dX6_next_2 : decode cX6_next 2 = .ok (.getfield 42, 3) := by decide +kernel
theorem dX6_next_5 : decode cX6_next 5 = .ok (.putfield 55, 3) := by decide +kernel
theorem dX6_next_8 : decode cX6_next 8 = .ok (.aload_n 0, 1) := by decide +kernel
theorem dX6_next_9 : decode cX6_next 9 = .ok (.getfield 55, 3) := by decide +kernel
theorem dX6_next_12 : decode cX6_next 12 = .ok (.aload_n 0, 1) := by decide +kernel
theorem dX6_next_13 : decode cX6_next 13 = .ok (.getfield 22, 3) := by decide +kernel
theorem dX6_next_16 : decode cX6_next 16 = .ok (.if_icmp .ge 44, 3) := by decide +kernel
theorem dX6_next_19 : decode cX6_next 19 = .ok (.aload_n 0, 1) := by decide +kernel
theorem dX6_next_20 : decode cX6_next 20 = .ok (.getfield 9, 3) := by decide +kernel
theorem dX6_next_23 : decode cX6_next 23 = .ok (.aload_n 0, 1) := by decide +kernel
theorem dX6_next_24 : decode cX6_next 24 = .ok (.getfield 55, 3) := by decide +kernel
theorem dX6_next_27 : decode cX6_next 27 = .ok (.baload, 1) := by decide +kernel
theorem dX6_next_28 : decode cX6_next 28 = .ok (.bipush 32, 2) := by decide +kernel
theorem dX6_next_30 : decode cX6_next 30 = .ok (.if_icmp .eq 17, 3) := by decide +kernel
theorem dX6_next_33 : decode cX6_next 33 = .ok (.aload_n 0, 1) := by decide +kernel
theorem dX6_next_34 : decode cX6_next 34 = .ok (.getfield 9, 3) := by decide +kernel
theorem dX6_next_37 : decode cX6_next 37 = .ok (.aload_n 0, 1) := by decide +kernel
theorem dX6_next_38 : decode cX6_next 38 = .ok (.getfield 55, 3) := by decide +kernel
theorem dX6_next_41 : decode cX6_next 41 = .ok (.baload, 1) := by decide +kernel
theorem dX6_next_42 : decode cX6_next 42 = .ok (.bipush 10, 2) := by decide +kernel
theorem dX6_next_44 : decode cX6_next 44 = .ok (.if_icmp .ne 16, 3) := by decide +kernel
theorem dX6_next_47 : decode cX6_next 47 = .ok (.aload_n 0, 1) := by decide +kernel
theorem dX6_next_48 : decode cX6_next 48 = .ok (.dup, 1) := by decide +kernel
theorem dX6_next_49 : decode cX6_next 49 = .ok (.getfield 55, 3) := by decide +kernel
theorem dX6_next_52 : decode cX6_next 52 = .ok (.iconst 1, 1) := by decide +kernel
theorem dX6_next_53 : decode cX6_next 53 = .ok (.iadd, 1) := by decide +kernel
theorem dX6_next_54 : decode cX6_next 54 = .ok (.putfield 55, 3) := by decide +kernel
theorem dX6_next_57 : decode cX6_next 57 = .ok (.goto (-49), 3) := by decide +kernel
theorem dX6_next_60 : decode cX6_next 60 = .ok (.aload_n 0, 1) := by decide +kernel
theorem dX6_next_61 : decode cX6_next 61 = .ok (.aload_n 0, 1) := by decide +kernel
theorem dX6_next_62 : decode cX6_next 62 = .ok (.getfield 55, 3) := by decide +kernel
theorem dX6_next_65 : decode cX6_next 65 = .ok (.putfield 42, 3) := by decide +kernel
theorem dX6_next_68 : decode cX6_next 68 = .ok (.aload_n 0, 1) := by decide +kernel
theorem dX6_next_69 : decode cX6_next 69 = .ok (.getfield 55, 3) := by decide +kernel
theorem dX6_next_72 : decode cX6_next 72 = .ok (.aload_n 0, 1) := by decide +kernel
theorem dX6_next_73 : decode cX6_next 73 = .ok (.getfield 22, 3) := by decide +kernel
theorem dX6_next_76 : decode cX6_next 76 = .ok (.if_icmp .lt 11, 3) := by decide +kernel
theorem dX6_next_79 : decode cX6_next 79 = .ok (.aload_n 0, 1) := by decide +kernel
theorem dX6_next_80 : decode cX6_next 80 = .ok (.iconst 0, 1) := by decide +kernel
theorem dX6_next_81 : decode cX6_next 81 = .ok (.putfield 48, 3) := by decide +kernel
theorem dX6_next_84 : decode cX6_next 84 = .ok (.goto 162, 3) := by decide +kernel
theorem dX6_next_87 : decode cX6_next 87 = .ok (.aload_n 0, 1) := by decide +kernel
theorem dX6_next_88 : decode cX6_next 88 = .ok (.aload_n 0, 1) := by decide +kernel
theorem dX6_next_89 : decode cX6_next 89 = .ok (.getfield 55, 3) := by decide +kernel
theorem dX6_next_92 : decode cX6_next 92 = .ok (.invokevirtual 148, 3) := by decide +kernel
theorem dX6_next_95 : decode cX6_next 95 = .ok (.ifCond .eq 43, 3) := by decide +kernel
theorem dX6_next_98 : decode cX6_next 98 = .ok (.aload_n 0, 1) := by decide +kernel
theorem dX6_next_99 : decode cX6_next 99 = .ok (.iconst 2, 1) := by decide +kernel
theorem dX6_next_100 : decode cX6_next 100 = .ok (.putfield 48, 3) := by decide +kernel
theorem dX6_next_103 : decode cX6_next 103 = .ok (.aload_n 0, 1) := by decide +kernel
theorem dX6_next_104 : decode cX6_next 104 = .ok (.getfield 42, 3) := by decide +kernel
theorem dX6_next_107 : decode cX6_next 107 = .ok (.aload_n 0, 1) := by decide +kernel
theorem dX6_next_108 : decode cX6_next 108 = .ok (.getfield 22, 3) := by decide +kernel
theorem dX6_next_111 : decode cX6_next 111 = .ok (.if_icmp .ge 135, 3) := by decide +kernel
theorem dX6_next_114 : decode cX6_next 114 = .ok (.aload_n 0, 1) := by decide +kernel
theorem dX6_next_115 : decode cX6_next 115 = .ok (.aload_n 0, 1) := by decide +kernel
theorem dX6_next_116 : decode cX6_next 116 = .ok (.getfield 42, 3) := by decide +kernel
theorem dX6_next_119 : decode cX6_next 119 = .ok (.invokevirtual 148, 3) := by decide +kernel
theorem dX6_next_122 : decode cX6_next 122 = .ok (.ifCond .eq 124, 3) := by decide +kernel
theorem dX6_next_125 : decode cX6_next 125 = .ok (.aload_n 0, 1) := by decide +kernel
theorem dX6_next_126 : decode cX6_next 126 = .ok (.dup, 1) := by decide +kernel
theorem dX6_next_127 : decode cX6_next 127 = .ok (.getfield 42, 3) := by decide +kernel
theorem dX6_next_130 : decode cX6_next 130 = .ok (.iconst 1, 1) := by decide +kernel
theorem dX6_next_131 : decode cX6_next 131 = .ok (.iadd, 1) := by decide +kernel
theorem dX6_next_132 : decode cX6_next 132 = .ok (.putfield 42, 3) := by decide +kernel
theorem dX6_next_135 : decode cX6_next 135 = .ok (.goto (-32), 3) := by decide +kernel
theorem dX6_next_138 : decode cX6_next 138 = .ok (.aload_n 0, 1) := by decide +kernel
theorem dX6_next_139 : decode cX6_next 139 = .ok (.aload_n 0, 1) := by decide +kernel
theorem dX6_next_140 : decode cX6_next 140 = .ok (.getfield 55, 3) := by decide +kernel
theorem dX6_next_143 : decode cX6_next 143 = .ok (.invokevirtual 152, 3) := by decide +kernel
theorem dX6_next_146 : decode cX6_next 146 = .ok (.ifCond .eq 78, 3) := by decide +kernel
theorem dX6_next_149 : decode cX6_next 149 = .ok (.aload_n 0, 1) := by decide +kernel
theorem dX6_next_150 : decode cX6_next 150 = .ok (.iconst 3, 1) := by decide +kernel
theorem dX6_next_151 : decode cX6_next 151 = .ok (.putfield 48, 3) := by decide +kernel
theorem dX6_next_154 : decode cX6_next 154 = .ok (.aload_n 0, 1) := by decide +kernel
theorem dX6_next_155 : decode cX6_next 155 = .ok (.iconst 0, 1) := by decide +kernel
theorem dX6_next_156 : decode cX6_next 156 = .ok (.putfield 105, 3) := by decide +kernel
theorem dX6_next_159 : decode cX6_next 159 = .ok (.aload_n 0, 1) := by decide +kernel
theorem dX6_next_160 : decode cX6_next 160 = .ok (.getfield 42, 3) := by decide +kernel
theorem dX6_next_163 : decode cX6_next 163 = .ok (.aload_n 0, 1) := by decide +kernel
theorem dX6_next_164 : decode cX6_next 164 = .ok (.getfield 22, 3) := by decide +kernel
theorem dX6_next_167 : decode cX6_next 167 = .ok (.if_icmp .ge 79, 3) := by decide +kernel
theorem dX6_next_170 : decode cX6_next 170 = .ok (.aload_n 0, 1) := by decide +kernel
theorem dX6_next_171 : decode cX6_next 171 = .ok (.aload_n 0, 1) := by decide +kernel
theorem dX6_next_172 : decode cX6_next 172 = .ok (.getfield 42, 3) := by decide +kernel
theorem dX6_next_175 : decode cX6_next 175 = .ok (.invokevirtual 152, 3) := by decide +kernel
theorem dX6_next_178 : decode cX6_next 178 = .ok (.ifCond .eq 68, 3) := by decide +kernel
theorem dX6_next_181 : decode cX6_next 181 = .ok (.aload_n 0, 1) := by decide +kernel
theorem dX6_next_182 : decode cX6_next 182 = .ok (.sipush 1000, 3) := by decide +kernel
theorem dX6_next_185 : decode cX6_next 185 = .ok (.aload_n 0, 1) := by decide +kernel
theorem dX6_next_186 : decode cX6_next 186 = .ok (.getfield 105, 3) := by decide +kernel
theorem dX6_next_189 : decode cX6_next 189 = .ok (.bipush 10, 2) := by decide +kernel
theorem dX6_next_191 : decode cX6_next 191 = .ok (.imul, 1) := by decide +kernel
theorem dX6_next_192 : decode cX6_next 192 = .ok (.aload_n 0, 1) := by decide +kernel
theorem dX6_next_193 : decode cX6_next 193 = .ok (.getfield 9, 3) := by decide +kernel
theorem dX6_next_196 : decode cX6_next 196 = .ok (.aload_n 0, 1) := by decide +kernel
theorem dX6_next_197 : decode cX6_next 197 = .ok (.getfield 42, 3) := by decide +kernel
theorem dX6_next_200 : decode cX6_next 200 = .ok (.baload, 1) := by decide +kernel
theorem dX6_next_201 : decode cX6_next 201 = .ok (.iadd, 1) := by decide +kernel
theorem dX6_next_202 : decode cX6_next 202 = .ok (.bipush 48, 2) := by decide +kernel
theorem dX6_next_204 : decode cX6_next 204 = .ok (.isub, 1) := by decide +kernel
theorem dX6_next_205 : decode cX6_next 205 = .ok (.invokestatic 155, 3) := by decide +kernel
theorem dX6_next_208 : decode cX6_next 208 = .ok (.putfield 105, 3) := by decide +kernel
theorem dX6_next_211 : decode cX6_next 211 = .ok (.aload_n 0, 1) := by decide +kernel
theorem dX6_next_212 : decode cX6_next 212 = .ok (.dup, 1) := by decide +kernel
theorem dX6_next_213 : decode cX6_next 213 = .ok (.getfield 42, 3) := by decide +kernel
theorem dX6_next_216 : decode cX6_next 216 = .ok (.iconst 1, 1) := by decide +kernel
theorem dX6_next_217 : decode cX6_next 217 = .ok (.iadd, 1) := by decide +kernel
theorem dX6_next_218 : decode cX6_next 218 = .ok (.putfield 42, 3) := by decide +kernel
theorem dX6_next_221 : decode cX6_next 221 = .ok (.goto (-62), 3) := by decide +kernel
theorem dX6_next_224 : decode cX6_next 224 = .ok (.aload_n 0, 1) := by decide +kernel
theorem dX6_next_225 : decode cX6_next 225 = .ok (.aload_n 0, 1) := by decide +kernel
theorem dX6_next_226 : decode cX6_next 226 = .ok (.aload_n 0, 1) := by decide +kernel
theorem dX6_next_227 : decode cX6_next 227 = .ok (.getfield 55, 3) := by decide +kernel
theorem dX6_next_230 : decode cX6_next 230 = .ok (.invokevirtual 161, 3) := by decide +kernel
theorem dX6_next_233 : decode cX6_next 233 = .ok (.putfield 48, 3) := by decide +kernel
theorem dX6_next_236 : decode cX6_next 236 = .ok (.aload_n 0, 1) := by decide +kernel
theorem dX6_next_237 : decode cX6_next 237 = .ok (.dup, 1) := by decide +kernel
theorem dX6_next_238 : decode cX6_next 238 = .ok (.getfield 42, 3) := by decide +kernel
theorem dX6_next_241 : decode cX6_next 241 = .ok (.iconst 1, 1) := by decide +kernel
theorem dX6_next_242 : decode cX6_next 242 = .ok (.iadd, 1) := by decide +kernel
theorem dX6_next_243 : decode cX6_next 243 = .ok (.putfield 42, 3) := by decide +kernel
theorem dX6_next_246 : decode cX6_next 246 = .ok (.return_, 1) := by decide +kernel
theorem dX6_signAt_0 : decode cX6_signAt 0 = .ok (.aload_n 0, 1) := by decide +kernel
theorem dX6_signAt_1 : decode cX6_signAt 1 = .ok (.getfield 9, 3) := by decide +kernel
theorem dX6_signAt_4 : decode cX6_signAt 4 = .ok (.iload_n 1, 1) := by decide +kernel
theorem dX6_signAt_5 : decode cX6_signAt 5 = .ok (.baload, 1) := by decide +kernel
theorem dX6_signAt_6 : decode cX6_signAt 6 = .ok (.bipush 47, 2) := by decide +kernel
theorem dX6_signAt_8 : decode cX6_signAt 8 = .ok (.if_icmp .ne 5, 3) := by decide +kernel
theorem dX6_signAt_11 : decode cX6_signAt 11 = .ok (.iconst 4, 1) := by decide +kernel
theorem dX6_signAt_12 : decode cX6_signAt 12 = .ok (.ireturn, 1) := by decide +kernel
theorem dX6_signAt_13 : decode cX6_signAt 13 = .ok (.aload_n 0, 1) := by decide +kernel
theorem dX6_signAt_14 : decode cX6_signAt 14 = .ok (.getfield 9, 3) := by decide +kernel
theorem dX6_signAt_17 : decode cX6_signAt 17 = .ok (.iload_n 1, 1) := by decide +kernel
theorem dX6_signAt_18 : decode cX6_signAt 18 = .ok (.baload, 1) := by decide +kernel
theorem dX6_signAt_19 : decode cX6_signAt 19 = .ok (.bipush 59, 2) := by decide +kernel
theorem dX6_signAt_21 : decode cX6_signAt 21 = .ok (.if_icmp .ne 7, 3) := by decide +kernel
theorem dX6_signAt_24 : decode cX6_signAt 24 = .ok (.iconst 5, 1) := by decide +kernel
theorem dX6_signAt_25 : decode cX6_signAt 25 = .ok (.goto 4, 3) := by decide +kernel
theorem dX6_signAt_28 : decode cX6_signAt 28 = .ok (.iconst 1, 1) := by decide +kernel
theorem dX6_signAt_29 : decode cX6_signAt 29 = .ok (.ireturn, 1) := by decide +kernel
theorem dX6_isLetter_0 : decode cX6_isLetter 0 = .ok (.aload_n 0, 1) := by decide +kernel
theorem dX6_isLetter_1 : decode cX6_isLetter 1 = .ok (.getfield 9, 3) := by decide +kernel
theorem dX6_isLetter_4 : decode cX6_isLetter 4 = .ok (.iload_n 1, 1) := by decide +kernel
theorem dX6_isLetter_5 : decode cX6_isLetter 5 = .ok (.baload, 1) := by decide +kernel
theorem dX6_isLetter_6 : decode cX6_isLetter 6 = .ok (.bipush 97, 2) := by decide +kernel
theorem dX6_isLetter_8 : decode cX6_isLetter 8 = .ok (.if_icmp .lt 18, 3) := by decide +kernel
theorem dX6_isLetter_11 : decode cX6_isLetter 11 = .ok (.aload_n 0, 1) := by decide +kernel
theorem dX6_isLetter_12 : decode cX6_isLetter 12 = .ok (.getfield 9, 3) := by decide +kernel
theorem dX6_isLetter_15 : decode cX6_isLetter 15 = .ok (.iload_n 1, 1) := by decide +kernel
theorem dX6_isLetter_16 : decode cX6_isLetter 16 = .ok (.baload, 1) := by decide +kernel
theorem dX6_isLetter_17 : decode cX6_isLetter 17 = .ok (.bipush 122, 2) := by decide +kernel
theorem dX6_isLetter_19 : decode cX6_isLetter 19 = .ok (.if_icmp .gt 7, 3) := by decide +kernel
theorem dX6_isLetter_22 : decode cX6_isLetter 22 = .ok (.iconst 1, 1) := by decide +kernel
theorem dX6_isLetter_23 : decode cX6_isLetter 23 = .ok (.goto 4, 3) := by decide +kernel
theorem dX6_isLetter_26 : decode cX6_isLetter 26 = .ok (.iconst 0, 1) := by decide +kernel
theorem dX6_isLetter_27 : decode cX6_isLetter 27 = .ok (.ireturn, 1) := by decide +kernel
theorem dX6_isDigit_0 : decode cX6_isDigit 0 = .ok (.aload_n 0, 1) := by decide +kernel
theorem dX6_isDigit_1 : decode cX6_isDigit 1 = .ok (.getfield 9, 3) := by decide +kernel
theorem dX6_isDigit_4 : decode cX6_isDigit 4 = .ok (.iload_n 1, 1) := by decide +kernel
theorem dX6_isDigit_5 : decode cX6_isDigit 5 = .ok (.baload, 1) := by decide +kernel
theorem dX6_isDigit_6 : decode cX6_isDigit 6 = .ok (.bipush 48, 2) := by decide +kernel
theorem dX6_isDigit_8 : decode cX6_isDigit 8 = .ok (.if_icmp .lt 18, 3) := by decide +kernel
theorem dX6_isDigit_11 : decode cX6_isDigit 11 = .ok (.aload_n 0, 1) := by decide +kernel
theorem dX6_isDigit_12 : decode cX6_isDigit 12 = .ok (.getfield 9, 3) := by decide +kernel
theorem dX6_isDigit_15 : decode cX6_isDigit 15 = .ok (.iload_n 1, 1) := by decide +kernel
theorem dX6_isDigit_16 : decode cX6_isDigit 16 = .ok (.baload, 1) := by decide +kernel
theorem dX6_isDigit_17 : decode cX6_isDigit 17 = .ok (.bipush 57, 2) := by decide +kernel
theorem dX6_isDigit_19 : decode cX6_isDigit 19 = .ok (.if_icmp .gt 7, 3) := by decide +kernel
theorem dX6_isDigit_22 : decode cX6_isDigit 22 = .ok (.iconst 1, 1) := by decide +kernel
theorem dX6_isDigit_23 : decode cX6_isDigit 23 = .ok (.goto 4, 3) := by decide +kernel
theorem dX6_isDigit_26 : decode cX6_isDigit 26 = .ok (.iconst 0, 1) := by decide +kernel
theorem dX6_isDigit_27 : decode cX6_isDigit 27 = .ok (.ireturn, 1) := by decide +kernel
theorem dX7_init_0 : decode cX7_init 0 = .ok (.aload_n 0, 1) := by decide +kernel
theorem dX7_init_1 : decode cX7_init 1 = .ok (.invokespecial 3, 3) := by decide +kernel
theorem dX7_init_4 : decode cX7_init 4 = .ok (.aload_n 0, 1) := by decide +kernel
theorem dX7_init_5 : decode cX7_init 5 = .ok (.lconst 1, 1) := by decide +kernel
theorem dX7_init_6 : decode cX7_init 6 = .ok (.putfield 9, 3) := by decide +kernel
theorem dX7_init_9 : decode cX7_init 9 = .ok (.aload_n 0, 1) := by decide +kernel
theorem dX7_init_10 : decode cX7_init 10 = .ok (.iconst (-1), 1) := by decide +kernel
theorem dX7_init_11 : decode cX7_init 11 = .ok (.putfield 15, 3) := by decide +kernel
theorem dX7_init_14 : decode cX7_init 14 = .ok (.aload_n 0, 1) := by decide +kernel
theorem dX7_init_15 : decode cX7_init 15 = .ok (.aload_n 1, 1) := by decide +kernel
theorem dX7_init_16 : decode cX7_init 16 = .ok (.putfield 19, 3) := by decide +kernel
theorem dX7_init_19 : decode cX7_init 19 = .ok (.return_, 1) := by decide +kernel
theorem dX7_refresh_0 : decode cX7_refresh 0 = .ok (.aload_n 0, 1) := by decide +kernel
theorem dX7_refresh_1 : decode cX7_refresh 1 = .ok (.getfield 15, 3) := by decide +kernel
theorem dX7_refresh_4 : decode cX7_refresh 4 = .ok (.aload_n 0, 1) := by decide +kernel
theorem dX7_refresh_5 : decode cX7_refresh 5 = .ok (.getfield 19, 3) := by decide +kernel
theorem dX7_refresh_8 : decode cX7_refresh 8 = .ok (.getfield 23, 3) := by decide +kernel
theorem dX7_refresh_11 : decode cX7_refresh 11 = .ok (.getfield 29, 3) := by decide +kernel
theorem dX7_refresh_14 : decode cX7_refresh 14 = .ok (.if_icmp .ne 4, 3) := by decide +kernel
theorem dX7_refresh_17 : decode cX7_refresh 17 = .ok (.return_, 1) := by decide +kernel
theorem dX7_refresh_18 : decode cX7_refresh 18 = .ok (.aload_n 0, 1) := by decide +kernel
theorem dX7_refresh_19 : decode cX7_refresh 19 = .ok (.aload_n 0, 1) := by decide +kernel
theorem dX7_refresh_20 : decode cX7_refresh 20 = .ok (.getfield 19, 3) := by decide +kernel
theorem dX7_refresh_23 : decode cX7_refresh 23 = .ok (.getfield 23, 3) := by decide +kernel
theorem dX7_refresh_26 : decode cX7_refresh 26 = .ok (.getfield 29, 3) := by decide +kernel
theorem dX7_refresh_29 : decode cX7_refresh 29 = .ok (.putfield 15, 3) := by decide +kernel
theorem dX7_refresh_32 : decode cX7_refresh 32 = .ok (.aload_n 0, 1) := by decide +kernel
theorem dX7_refresh_33 : decode cX7_refresh 33 = .ok (.getfield 19, 3) := by decide +kernel
theorem dX7_refresh_36 : decode cX7_refresh 36 = .ok (.invokevirtual 32, 3) := by decide +kernel
theorem dX7_refresh_39 : decode cX7_refresh 39 = .ok (.aload_n 0, 1) := by decide +kernel
theorem dX7_refresh_40 : decode cX7_refresh 40 = .ok (.iconst 0, 1) := by decide +kernel
theorem dX7_refresh_41 : decode cX7_refresh 41 = .ok (.putfield 35, 3) := by decide +kernel
theorem dX7_refresh_44 : decode cX7_refresh 44 = .ok (.aload_n 0, 1) := by decide +kernel
theorem dX7_refresh_45 : decode cX7_refresh 45 = .ok (.iconst 0, 1) := by decide +kernel
theorem dX7_refresh_46 : decode cX7_refresh 46 = .ok (.iconst 0, 1) := by decide +kernel
theorem dX7_refresh_47 : decode cX7_refresh 47 = .ok (.invokevirtual 38, 3) := by decide +kernel
theorem dX7_refresh_50 : decode cX7_refresh 50 = .ok (.iconst 0, 1) := by decide +kernel
theorem dX7_refresh_51 : decode cX7_refresh 51 = .ok (.istore_n 1, 1) := by decide +kernel
theorem dX7_refresh_52 : decode cX7_refresh 52 = .ok (.iload_n 1, 1) := by decide +kernel
theorem dX7_refresh_53 : decode cX7_refresh 53 = .ok (.bipush 100, 2) := by decide +kernel
theorem dX7_refresh_55 : decode cX7_refresh 55 = .ok (.if_icmp .ge 38, 3) := by decide +kernel
theorem dX7_refresh_58 : decode cX7_refresh 58 = .ok (.iconst 0, 1) := by decide +kernel
theorem dX7_refresh_59 : decode cX7_refresh 59 = .ok (.istore_n 2, 1) := by decide +kernel
theorem dX7_refresh_60 : decode cX7_refresh 60 = .ok (.iload_n 2, 1) := by decide +kernel
theorem dX7_refresh_61 : decode cX7_refresh 61 = .ok (.bipush 100, 2) := by decide +kernel
theorem dX7_refresh_63 : decode cX7_refresh 63 = .ok (.if_icmp .ge 24, 3) := by decide +kernel
theorem dX7_refresh_66 : decode cX7_refresh 66 = .ok (.aload_n 0, 1) := by decide +kernel
theorem dX7_refresh_67 : decode cX7_refresh 67 = .ok (.iload_n 1, 1) := by decide +kernel
theorem dX7_refresh_68 : decode cX7_refresh 68 = .ok (.iload_n 2, 1) := by decide +kernel
theorem dX7_refresh_69 : decode cX7_refresh 69 = .ok (.invokevirtual 42, 3) := by decide +kernel
theorem dX7_refresh_72 : decode cX7_refresh 72 = .ok (.ifCond .eq 9, 3) := by decide +kernel
theorem dX7_refresh_75 : decode cX7_refresh 75 = .ok (.aload_n 0, 1) := by decide +kernel
theorem dX7_refresh_76 : decode cX7_refresh 76 = .ok (.iload_n 1, 1) := by decide +kernel
theorem dX7_refresh_77 : decode cX7_refresh 77 = .ok (.iload_n 2, 1) := by decide +kernel
theorem dX7_refresh_78 : decode cX7_refresh 78 = .ok (.invokevirtual 38, 3) := by decide +kernel
theorem dX7_refresh_81 : decode cX7_refresh 81 = .ok (.iinc 2 1, 3) := by decide +kernel
theorem dX7_refresh_84 : decode cX7_refresh 84 = .ok (.goto (-24), 3) := by decide +kernel
theorem dX7_refresh_87 : decode cX7_refresh 87 = .ok (.iinc 1 1, 3) := by decide +kernel
theorem dX7_refresh_90 : decode cX7_refresh 90 = .ok (.goto (-38), 3) := by decide +kernel
theorem dX7_refresh_93 : decode cX7_refresh 93 = .ok (.aload_n 0, 1) := by decide +kernel
theorem dX7_refresh_94 : decode cX7_refresh 94 = .ok (.getfield 46, 3) := by decide +kernel
theorem dX7_refresh_97 : decode cX7_refresh 97 = .ok (.aload_n 0, 1) := by decide +kernel
theorem dX7_refresh_98 : decode cX7_refresh 98 = .ok (.getfield 9, 3) := by decide +kernel
theorem dX7_refresh_101 : decode cX7_refresh 101 = .ok (.invokestatic 49, 3) := by decide +kernel
theorem dX7_refresh_104 : decode cX7_refresh 104 = .ok (.lstore_n 1, 1) := by decide +kernel
theorem dX7_refresh_105 : decode cX7_refresh 105 = .ok (.lload_n 1, 1) := by decide +kernel
theorem dX7_refresh_106 : decode cX7_refresh 106 = .ok (.lconst 1, 1) := by decide +kernel
theorem dX7_refresh_107 : decode cX7_refresh 107 = .ok (.lcmp, 1) := by decide +kernel
theorem dX7_refresh_108 : decode cX7_refresh 108 = .ok (.ifCond .le 23, 3) := by decide +kernel
theorem dX7_refresh_111 : decode cX7_refresh 111 = .ok (.aload_n 0, 1) := by decide +kernel
theorem dX7_refresh_112 : decode cX7_refresh 112 = .ok (.dup, 1) := by decide +kernel
theorem dX7_refresh_113 : decode cX7_refresh 113 = .ok (.getfield 46, 3) := by decide +kernel
theorem dX7_refresh_116 : decode cX7_refresh 116 = .ok (.lload_n 1, 1) := by decide +kernel
theorem dX7_refresh_117 : decode cX7_refresh 117 = .ok (.ldiv, 1) := by decide +kernel
theorem dX7_refresh_118 : decode cX7_refresh 118 = .ok (.putfield 46, 3) := by decide +kernel
theorem dX7_refresh_121 : decode cX7_refresh 121 = .ok (.aload_n 0, 1) := by decide +kernel
theorem dX7_refresh_122 : decode cX7_refresh 122 = .ok (.dup, 1) := by decide +kernel
theorem dX7_refresh_123 : decode cX7_refresh 123 = .ok (.getfield 9, 3) := by decide +kernel
theorem dX7_refresh_126 : decode cX7_refresh 126 = .ok (.lload_n 1, 1) := by decide +kernel
theorem dX7_refresh_127 : decode cX7_refresh 127 = .ok (.ldiv, 1) := by decide +kernel
theorem dX7_refresh_128 : decode cX7_refresh 128 = .ok (.putfield 9, 3) := by decide +kernel
theorem dX7_refresh_131 : decode cX7_refresh 131 = .ok (.return_, 1) := by decide +kernel
theorem dX7_settleAt_0 : decode cX7_settleAt 0 = .ok (.aload_n 0, 1) := by decide +kernel
theorem dX7_settleAt_1 : decode cX7_settleAt 1 = .ok (.iload_n 1, 1) := by decide +kernel
theorem dX7_settleAt_2 : decode cX7_settleAt 2 = .ok (.putfield 53, 3) := by decide +kernel
theorem dX7_settleAt_5 : decode cX7_settleAt 5 = .ok (.aload_n 0, 1) := by decide +kernel
theorem dX7_settleAt_6 : decode cX7_settleAt 6 = .ok (.iload_n 2, 1) := by decide +kernel
theorem dX7_settleAt_7 : decode cX7_settleAt 7 = .ok (.putfield 56, 3) := by decide +kernel
theorem dX7_settleAt_10 : decode cX7_settleAt 10 = .ok (.aload_n 0, 1) := by decide +kernel
theorem dX7_settleAt_11 : decode cX7_settleAt 11 = .ok (.lconst 0, 1) := by decide +kernel
theorem dX7_settleAt_12 : decode cX7_settleAt 12 = .ok (.putfield 46, 3) := by decide +kernel
theorem dX7_settleAt_15 : decode cX7_settleAt 15 = .ok (.aload_n 0, 1) := by decide +kernel
theorem dX7_settleAt_16 : decode cX7_settleAt 16 = .ok (.lconst 1, 1) := by decide +kernel
theorem dX7_settleAt_17 : decode cX7_settleAt 17 = .ok (.putfield 9, 3) := by decide +kernel
theorem dX7_settleAt_20 : decode cX7_settleAt 20 = .ok (.iconst 0, 1) := by decide +kernel
theorem dX7_settleAt_21 : decode cX7_settleAt 21 = .ok (.istore_n 3, 1) := by decide +kernel
theorem dX7_settleAt_22 : decode cX7_settleAt 22 = .ok (.iload_n 3, 1) := by decide +kernel
theorem dX7_settleAt_23 : decode cX7_settleAt 23 = .ok (.aload_n 0, 1) := by decide +kernel
theorem dX7_settleAt_24 : decode cX7_settleAt 24 = .ok (.getfield 19, 3) := by decide +kernel
theorem dX7_settleAt_27 : decode cX7_settleAt 27 = .ok (.getfield 59, 3) := by decide +kernel
theorem dX7_settleAt_30 : decode cX7_settleAt 30 = .ok (.if_icmp .ge 39, 3) := by decide +kernel
theorem dX7_settleAt_33 : decode cX7_settleAt 33 = .ok (.aload_n 0, 1) := by decide +kernel
theorem dX7_settleAt_34 : decode cX7_settleAt 34 = .ok (.iload_n 3, 1) := by decide +kernel
theorem dX7_settleAt_35 : decode cX7_settleAt 35 = .ok (.iload_n 1, 1) := by decide +kernel
theorem dX7_settleAt_36 : decode cX7_settleAt 36 = .ok (.iload_n 2, 1) := by decide +kernel
theorem dX7_settleAt_37 : decode cX7_settleAt 37 = .ok (.invokevirtual 62, 3) := by decide +kernel
theorem dX7_settleAt_40 : decode cX7_settleAt 40 = .ok (.ifCond .ne 23, 3) := by decide +kernel
theorem dX7_settleAt_43 : decode cX7_settleAt 43 = .ok (.aload_n 0, 1) := by decide +kernel
theorem dX7_settleAt_44 : decode cX7_settleAt 44 = .ok (.aload_n 0, 1) := by decide +kernel
theorem dX7_settleAt_45 : decode cX7_settleAt 45 = .ok (.iload_n 3, 1) := by decide +kernel
theorem dX7_settleAt_46 : decode cX7_settleAt 46 = .ok (.iload_n 1, 1) := by decide +kernel
theorem dX7_settleAt_47 : decode cX7_settleAt 47 = .ok (.iload_n 2, 1) := by decide +kernel
theorem dX7_settleAt_48 : decode cX7_settleAt 48 = .ok (.invokevirtual 66, 3) := by decide +kernel
theorem dX7_settleAt_51 : decode cX7_settleAt 51 = .ok (.putfield 46, 3) := by decide +kernel
theorem dX7_settleAt_54 : decode cX7_settleAt 54 = .ok (.aload_n 0, 1) := by decide +kernel
theorem dX7_settleAt_55 : decode cX7_settleAt 55 = .ok (.aload_n 0, 1) := by decide +kernel
theorem dX7_settleAt_56 : decode cX7_settleAt 56 = .ok (.iload_n 3, 1) := by decide +kernel
theorem dX7_settleAt_57 : decode cX7_settleAt 57 = .ok (.invokevirtual 70, 3) := by decide +kernel
theorem dX7_settleAt_60 : decode cX7_settleAt 60 = .ok (.putfield 9, 3) := by decide +kernel
theorem dX7_settleAt_63 : decode cX7_settleAt 63 = .ok (.iinc 3 1, 3) := by decide +kernel
theorem dX7_settleAt_66 : decode cX7_settleAt 66 = .ok (.goto (-44), 3) := by decide +kernel
theorem dX7_settleAt_69 : decode cX7_settleAt 69 = .ok (.return_, 1) := by decide +kernel
theorem dX7_isNearer_0 : decode cX7_isNearer 0 = .ok (.aload_n 0, 1) := by decide +kernel
theorem dX7_isNearer_1 : decode cX7_isNearer 1 = .ok (.getfield 35, 3) := by decide +kernel
theorem dX7_isNearer_4 : decode cX7_isNearer 4 = .ok (.aload_n 0, 1) := by decide +kernel
theorem dX7_isNearer_5 : decode cX7_isNearer 5 = .ok (.getfield 19, 3) := by decide +kernel
theorem dX7_isNearer_8 : decode cX7_isNearer 8 = .ok (.getfield 59, 3) := by decide +kernel
theorem dX7_isNearer_11 : decode cX7_isNearer 11 = .ok (.if_icmp .ge 16, 3) := by decide +kernel
theorem dX7_isNearer_14 : decode cX7_isNearer 14 = .ok (.aload_n 0, 1) := by decide +kernel
theorem dX7_isNearer_15 : decode cX7_isNearer 15 = .ok (.aload_n 0, 1) := by decide +kernel
theorem dX7_isNearer_16 : decode cX7_isNearer 16 = .ok (.getfield 35, 3) := by decide +kernel
theorem dX7_isNearer_19 : decode cX7_isNearer 19 = .ok (.iload_n 1, 1) := by decide +kernel
theorem dX7_isNearer_20 : decode cX7_isNearer 20 = .ok (.iload_n 2, 1) := by decide +kernel
theorem dX7_isNearer_21 : decode cX7_isNearer 21 = .ok (.invokevirtual 62, 3) := by decide +kernel
theorem dX7_isNearer_24 : decode cX7_isNearer 24 = .ok (.ifCond .ne 5, 3) := by decide +kernel
theorem dX7_isNearer_27 : decode cX7_isNearer 27 = .ok (.iconst 0, 1) := by decide +kernel
theorem dX7_isNearer_28 : decode cX7_isNearer 28 = .ok (.ireturn, 1) := by decide +kernel
theorem dX7_isNearer_29 : decode cX7_isNearer 29 = .ok (.iconst 0, 1) := by decide +kernel
theorem dX7_isNearer_30 : decode cX7_isNearer 30 = .ok (.istore_n 3, 1) := by decide +kernel
theorem dX7_isNearer_31 : decode cX7_isNearer 31 = .ok (.iload_n 3, 1) := by decide +kernel
theorem dX7_isNearer_32 : decode cX7_isNearer 32 = .ok (.aload_n 0, 1) := by decide +kernel
theorem dX7_isNearer_33 : decode cX7_isNearer 33 = .ok (.getfield 19, 3) := by decide +kernel
theorem dX7_isNearer_36 : decode cX7_isNearer 36 = .ok (.getfield 59, 3) := by decide +kernel
theorem dX7_isNearer_39 : decode cX7_isNearer 39 = .ok (.if_icmp .ge 26, 3) := by decide +kernel
theorem dX7_isNearer_42 : decode cX7_isNearer 42 = .ok (.aload_n 0, 1) := by decide +kernel
theorem dX7_isNearer_43 : decode cX7_isNearer 43 = .ok (.iload_n 3, 1) := by decide +kernel
theorem dX7_isNearer_44 : decode cX7_isNearer 44 = .ok (.iload_n 1, 1) := by decide +kernel
theorem dX7_isNearer_45 : decode cX7_isNearer 45 = .ok (.iload_n 2, 1) := by decide +kernel
theorem dX7_isNearer_46 : decode cX7_isNearer 46 = .ok (.invokevirtual 62, 3) := by decide +kernel
theorem dX7_isNearer_49 : decode cX7_isNearer 49 = .ok (.ifCond .ne 10, 3) := by decide +kernel
theorem dX7_isNearer_52 : decode cX7_isNearer 52 = .ok (.aload_n 0, 1) := by decide +kernel
theorem dX7_isNearer_53 : decode cX7_isNearer 53 = .ok (.iload_n 3, 1) := by decide +kernel
theorem dX7_isNearer_54 : decode cX7_isNearer 54 = .ok (.putfield 35, 3) := by decide +kernel
theorem dX7_isNearer_57 : decode cX7_isNearer 57 = .ok (.iconst 0, 1) := by decide +kernel
theorem dX7_isNearer_58 : decode cX7_isNearer 58 = .ok (.ireturn, 1) := by decide +kernel
theorem dX7_isNearer_59 : decode cX7_isNearer 59 = .ok (.iinc 3 1, 3) := by decide +kernel
theorem dX7_isNearer_62 : decode cX7_isNearer 62 = .ok (.goto (-31), 3) := by decide +kernel
theorem dX7_isNearer_65 : decode cX7_isNearer 65 = .ok (.iconst 1, 1) := by decide +kernel
theorem dX7_isNearer_66 : decode cX7_isNearer 66 = .ok (.ireturn, 1) := by decide +kernel
theorem dX7_isBelow_0 : decode cX7_isBelow 0 = .ok (.aload_n 0, 1) := by decide +kernel
theorem dX7_isBelow_1 : decode cX7_isBelow 1 = .ok (.iload_n 1, 1) := by decide +kernel
theorem dX7_isBelow_2 : decode cX7_isBelow 2 = .ok (.iload_n 2, 1) := by decide +kernel
theorem dX7_isBelow_3 : decode cX7_isBelow 3 = .ok (.iload_n 3, 1) := by decide +kernel
theorem dX7_isBelow_4 : decode cX7_isBelow 4 = .ok (.invokevirtual 66, 3) := by decide +kernel
theorem dX7_isBelow_7 : decode cX7_isBelow 7 = .ok (.aload_n 0, 1) := by decide +kernel
theorem dX7_isBelow_8 : decode cX7_isBelow 8 = .ok (.getfield 9, 3) := by decide +kernel
theorem dX7_isBelow_11 : decode cX7_isBelow 11 = .ok (.lmul, 1) := by decide +kernel
theorem dX7_isBelow_12 : decode cX7_isBelow 12 = .ok (.aload_n 0, 1) := by decide +kernel
theorem dX7_isBelow_13 : decode cX7_isBelow 13 = .ok (.getfield 46, 3) := by decide +kernel
theorem dX7_isBelow_16 : decode cX7_isBelow 16 = .ok (.aload_n 0, 1) := by decide +kernel
theorem dX7_isBelow_17 : decode cX7_isBelow 17 = .ok (.iload_n 1, 1) := by decide +kernel
theorem dX7_isBelow_18 : decode cX7_isBelow 18 = .ok (.invokevirtual 70, 3) := by decide +kernel
theorem dX7_isBelow_21 : decode cX7_isBelow 21 = .ok (.lmul, 1) := by decide +kernel
theorem dX7_isBelow_22 : decode cX7_isBelow 22 = .ok (.lcmp, 1) := by decide +kernel
theorem dX7_isBelow_23 : decode cX7_isBelow 23 = .ok (.ifCond .ge 7, 3) := by decide +kernel
theorem dX7_isBelow_26 : decode cX7_isBelow 26 = .ok (.iconst 1, 1) := by decide +kernel
theorem dX7_isBelow_27 : decode cX7_isBelow 27 = .ok (.goto 4, 3) := by decide +kernel
theorem dX7_isBelow_30 : decode cX7_isBelow 30 = .ok (.iconst 0, 1) := by decide +kernel
theorem dX7_isBelow_31 : decode cX7_isBelow 31 = .ok (.ireturn, 1) := by decide +kernel
theorem dX7_squareTop_0 : decode cX7_squareTop 0 = .ok (.aload_n 0, 1) := by decide +kernel
theorem dX7_squareTop_1 : decode cX7_squareTop 1 = .ok (.getfield 19, 3) := by decide +kernel
theorem dX7_squareTop_4 : decode cX7_squareTop 4 = .ok (.getfield 74, 3) := by decide +kernel
theorem dX7_squareTop_7 : decode cX7_squareTop 7 = .ok (.iload_n 1, 1) := by decide +kernel
theorem dX7_squareTop_8 : decode cX7_squareTop 8 = .ok (.iaload, 1) := by decide +kernel
theorem dX7_squareTop_9 : decode cX7_squareTop 9 = .ok (.i2l, 1) := by decide +kernel
theorem dX7_squareTop_10 : decode cX7_squareTop 10 = .ok (.iload_n 2, 1) := by decide +kernel
theorem dX7_squareTop_11 : decode cX7_squareTop 11 = .ok (.i2l, 1) := by decide +kernel
theorem dX7_squareTop_12 : decode cX7_squareTop 12 = .ok (.lmul, 1) := by decide +kernel
theorem dX7_squareTop_13 : decode cX7_squareTop 13 = .ok (.aload_n 0, 1) := by decide +kernel
theorem dX7_squareTop_14 : decode cX7_squareTop 14 = .ok (.getfield 19, 3) := by decide +kernel
theorem dX7_squareTop_17 : decode cX7_squareTop 17 = .ok (.getfield 78, 3) := by decide +kernel
theorem dX7_squareTop_20 : decode cX7_squareTop 20 = .ok (.iload_n 1, 1) := by decide +kernel
theorem dX7_squareTop_21 : decode cX7_squareTop 21 = .ok (.iaload, 1) := by decide +kernel
theorem dX7_squareTop_22 : decode cX7_squareTop 22 = .ok (.i2l, 1) := by decide +kernel
theorem dX7_squareTop_23 : decode cX7_squareTop 23 = .ok (.iload_n 3, 1) := by decide +kernel
theorem dX7_squareTop_24 : decode cX7_squareTop 24 = .ok (.i2l, 1) := by decide +kernel
theorem dX7_squareTop_25 : decode cX7_squareTop 25 = .ok (.lmul, 1) := by decide +kernel
theorem dX7_squareTop_26 : decode cX7_squareTop 26 = .ok (.ladd, 1) := by decide +kernel
theorem dX7_squareTop_27 : decode cX7_squareTop 27 = .ok (.aload_n 0, 1) := by decide +kernel
theorem dX7_squareTop_28 : decode cX7_squareTop 28 = .ok (.getfield 19, 3) := by decide +kernel
theorem dX7_squareTop_31 : decode cX7_squareTop 31 = .ok (.getfield 81, 3) := by decide +kernel
theorem dX7_squareTop_34 : decode cX7_squareTop 34 = .ok (.iload_n 1, 1) := by decide +kernel
theorem dX7_squareTop_35 : decode cX7_squareTop 35 = .ok (.iaload, 1) := by decide +kernel
theorem dX7_squareTop_36 : decode cX7_squareTop 36 = .ok (.i2l, 1) := by decide +kernel
theorem dX7_squareTop_37 : decode cX7_squareTop 37 = .ok (.lsub, 1) := by decide +kernel
theorem dX7_squareTop_38 : decode cX7_squareTop 38 = .ok (.lstore 4, 2) := by decide +kernel
theorem dX7_squareTop_40 : decode cX7_squareTop 40 = .ok (.lload 4, 2) := by decide +kernel
theorem dX7_squareTop_42 : decode cX7_squareTop 42 = .ok (.lload 4, 2) := by decide +kernel
theorem dX7_squareTop_44 : decode cX7_squareTop 44 = .ok (.lmul, 1) := by decide +kernel
theorem dX7_squareTop_45 : decode cX7_squareTop 45 = .ok (.lreturn, 1) := by decide +kernel
theorem dX7_squareBottom_0 : decode cX7_squareBottom 0 = .ok (.aload_n 0, 1) := by decide +kernel
theorem dX7_squareBottom_1 : decode cX7_squareBottom 1 = .ok (.getfield 19, 3) := by decide +kernel
theorem dX7_squareBottom_4 : decode cX7_squareBottom 4 = .ok (.getfield 74, 3) := by decide +kernel
theorem dX7_squareBottom_7 : decode cX7_squareBottom 7 = .ok (.iload_n 1, 1) := by decide +kernel
theorem dX7_squareBottom_8 : decode cX7_squareBottom 8 = .ok (.iaload, 1) := by decide +kernel
theorem dX7_squareBottom_9 : decode cX7_squareBottom 9 = .ok (.i2l, 1) := by decide +kernel
theorem dX7_squareBottom_10 : decode cX7_squareBottom 10 = .ok (.aload_n 0, 1) := by decide +kernel
theorem dX7_squareBottom_11 : decode cX7_squareBottom 11 = .ok (.getfield 19, 3) := by decide +kernel
theorem dX7_squareBottom_14 : decode cX7_squareBottom 14 = .ok (.getfield 74, 3) := by decide +kernel
theorem dX7_squareBottom_17 : decode cX7_squareBottom 17 = .ok (.iload_n 1, 1) := by decide +kernel
theorem dX7_squareBottom_18 : decode cX7_squareBottom 18 = .ok (.iaload, 1) := by decide +kernel
theorem dX7_squareBottom_19 : decode cX7_squareBottom 19 = .ok (.i2l, 1) := by decide +kernel
theorem dX7_squareBottom_20 : decode cX7_squareBottom 20 = .ok (.lmul, 1) := by decide +kernel
theorem dX7_squareBottom_21 : decode cX7_squareBottom 21 = .ok (.aload_n 0, 1) := by decide +kernel
theorem dX7_squareBottom_22 : decode cX7_squareBottom 22 = .ok (.getfield 19, 3) := by decide +kernel
theorem dX7_squareBottom_25 : decode cX7_squareBottom 25 = .ok (.getfield 78, 3) := by decide +kernel
theorem dX7_squareBottom_28 : decode cX7_squareBottom 28 = .ok (.iload_n 1, 1) := by decide +kernel
theorem dX7_squareBottom_29 : decode cX7_squareBottom 29 = .ok (.iaload, 1) := by decide +kernel
theorem dX7_squareBottom_30 : decode cX7_squareBottom 30 = .ok (.i2l, 1) := by decide +kernel
theorem dX7_squareBottom_31 : decode cX7_squareBottom 31 = .ok (.aload_n 0, 1) := by decide +kernel
theorem dX7_squareBottom_32 : decode cX7_squareBottom 32 = .ok (.getfield 19, 3) := by decide +kernel
theorem dX7_squareBottom_35 : decode cX7_squareBottom 35 = .ok (.getfield 78, 3) := by decide +kernel
theorem dX7_squareBottom_38 : decode cX7_squareBottom 38 = .ok (.iload_n 1, 1) := by decide +kernel
theorem dX7_squareBottom_39 : decode cX7_squareBottom 39 = .ok (.iaload, 1) := by decide +kernel
theorem dX7_squareBottom_40 : decode cX7_squareBottom 40 = .ok (.i2l, 1) := by decide +kernel
theorem dX7_squareBottom_41 : decode cX7_squareBottom 41 = .ok (.lmul, 1) := by decide +kernel
theorem dX7_squareBottom_42 : decode cX7_squareBottom 42 = .ok (.ladd, 1) := by decide +kernel
theorem dX7_squareBottom_43 : decode cX7_squareBottom 43 = .ok (.lreturn, 1) := by decide +kernel
theorem dX8_init_0 : decode cX8_init 0 = .ok (.aload_n 0, 1) := by decide +kernel
theorem dX8_init_1 : decode cX8_init 1 = .ok (.invokespecial 3, 3) := by decide +kernel
theorem dX8_init_4 : decode cX8_init 4 = .ok (.aload_n 0, 1) := by decide +kernel
theorem dX8_init_5 : decode cX8_init 5 = .ok (.bipush 15, 2) := by decide +kernel
theorem dX8_init_7 : decode cX8_init 7 = .ok (.newarray .int, 2) := by decide +kernel
theorem dX8_init_9 : decode cX8_init 9 = .ok (.putfield 9, 3) := by decide +kernel
theorem dX8_init_12 : decode cX8_init 12 = .ok (.aload_n 0, 1) := by decide +kernel
theorem dX8_init_13 : decode cX8_init 13 = .ok (.bipush 15, 2) := by decide +kernel
theorem dX8_init_15 : decode cX8_init 15 = .ok (.newarray .int, 2) := by decide +kernel
theorem dX8_init_17 : decode cX8_init 17 = .ok (.putfield 15, 3) := by decide +kernel
theorem dX8_init_20 : decode cX8_init 20 = .ok (.aload_n 0, 1) := by decide +kernel
theorem dX8_init_21 : decode cX8_init 21 = .ok (.bipush 15, 2) := by decide +kernel
theorem dX8_init_23 : decode cX8_init 23 = .ok (.newarray .int, 2) := by decide +kernel
theorem dX8_init_25 : decode cX8_init 25 = .ok (.putfield 18, 3) := by decide +kernel
theorem dX8_init_28 : decode cX8_init 28 = .ok (.aload_n 0, 1) := by decide +kernel
theorem dX8_init_29 : decode cX8_init 29 = .ok (.bipush 15, 2) := by decide +kernel
theorem dX8_init_31 : decode cX8_init 31 = .ok (.newarray .int, 2) := by decide +kernel
theorem dX8_init_33 : decode cX8_init 33 = .ok (.putfield 21, 3) := by decide +kernel
theorem dX8_init_36 : decode cX8_init 36 = .ok (.aload_n 0, 1) := by decide +kernel
theorem dX8_init_37 : decode cX8_init 37 = .ok (.bipush 15, 2) := by decide +kernel
theorem dX8_init_39 : decode cX8_init 39 = .ok (.newarray .int, 2) := by decide +kernel
theorem dX8_init_41 : decode cX8_init 41 = .ok (.putfield 24, 3) := by decide +kernel
theorem dX8_init_44 : decode cX8_init 44 = .ok (.aload_n 0, 1) := by decide +kernel
theorem dX8_init_45 : decode cX8_init 45 = .ok (.bipush 15, 2) := by decide +kernel
theorem dX8_init_47 : decode cX8_init 47 = .ok (.newarray .int, 2) := by decide +kernel
theorem dX8_init_49 : decode cX8_init 49 = .ok (.putfield 27, 3) := by decide +kernel
theorem dX8_init_52 : decode cX8_init 52 = .ok (.aload_n 0, 1) := by decide +kernel
theorem dX8_init_53 : decode cX8_init 53 = .ok (.bipush 20, 2) := by decide +kernel
theorem dX8_init_55 : decode cX8_init 55 = .ok (.newarray .int, 2) := by decide +kernel
theorem dX8_init_57 : decode cX8_init 57 = .ok (.putfield 30, 3) := by decide +kernel
theorem dX8_init_60 : decode cX8_init 60 = .ok (.aload_n 0, 1) := by decide +kernel
theorem dX8_init_61 : decode cX8_init 61 = .ok (.bipush 20, 2) := by decide +kernel
theorem dX8_init_63 : decode cX8_init 63 = .ok (.newarray .int, 2) := by decide +kernel
theorem dX8_init_65 : decode cX8_init 65 = .ok (.putfield 33, 3) := by decide +kernel
theorem dX8_init_68 : decode cX8_init 68 = .ok (.return_, 1) := by decide +kernel
theorem dX8_clear_0 : decode cX8_clear 0 = .ok (.aload_n 0, 1) := by decide +kernel
theorem dX8_clear_1 : decode cX8_clear 1 = .ok (.iconst 0, 1) := by decide +kernel
theorem dX8_clear_2 : decode cX8_clear 2 = .ok (.putfield 36, 3) := by decide +kernel
theorem dX8_clear_5 : decode cX8_clear 5 = .ok (.aload_n 0, 1) := by decide +kernel
theorem dX8_clear_6 : decode cX8_clear 6 = .ok (.iconst 0, 1) := by decide +kernel
theorem dX8_clear_7 : decode cX8_clear 7 = .ok (.putfield 40, 3) := by decide +kernel
theorem dX8_clear_10 : decode cX8_clear 10 = .ok (.aload_n 0, 1) := by decide +kernel
theorem dX8_clear_11 : decode cX8_clear 11 = .ok (.iconst 0, 1) := by decide +kernel
theorem dX8_clear_12 : decode cX8_clear 12 = .ok (.putfield 43, 3) := by decide +kernel
theorem dX8_clear_15 : decode cX8_clear 15 = .ok (.aload_n 0, 1) := by decide +kernel
theorem dX8_clear_16 : decode cX8_clear 16 = .ok (.iconst 0, 1) := by decide +kernel
theorem dX8_clear_17 : decode cX8_clear 17 = .ok (.putfield 46, 3) := by decide +kernel
theorem dX8_clear_20 : decode cX8_clear 20 = .ok (.aload_n 0, 1) := by decide +kernel
theorem dX8_clear_21 : decode cX8_clear 21 = .ok (.iconst 1, 1) := by decide +kernel
theorem dX8_clear_22 : decode cX8_clear 22 = .ok (.putfield 49, 3) := by decide +kernel
theorem dX8_clear_25 : decode cX8_clear 25 = .ok (.aload_n 0, 1) := by decide +kernel
theorem dX8_clear_26 : decode cX8_clear 26 = .ok (.iconst 1, 1) := by decide +kernel
theorem dX8_clear_27 : decode cX8_clear 27 = .ok (.putfield 52, 3) := by decide +kernel
theorem dX8_clear_30 : decode cX8_clear 30 = .ok (.return_, 1) := by decide +kernel
theorem dX8_hasVoter_0 : decode cX8_hasVoter 0 = .ok (.iload_n 1, 1) := by decide +kernel
theorem dX8_hasVoter_1 : decode cX8_hasVoter 1 = .ok (.ifCond .lt 15, 3) := by decide +kernel
theorem dX8_hasVoter_4 : decode cX8_hasVoter 4 = .ok (.iload_n 1, 1) := by decide +kernel
theorem dX8_hasVoter_5 : decode cX8_hasVoter 5 = .ok (.aload_n 0, 1) := by decide +kernel
theorem dX8_hasVoter_6 : decode cX8_hasVoter 6 = .ok (.getfield 36, 3) := by decide +kernel
theorem dX8_hasVoter_9 : decode cX8_hasVoter 9 = .ok (.if_icmp .ge 7, 3) := by decide +kernel
theorem dX8_hasVoter_12 : decode cX8_hasVoter 12 = .ok (.iconst 1, 1) := by decide +kernel
theorem dX8_hasVoter_13 : decode cX8_hasVoter 13 = .ok (.goto 4, 3) := by decide +kernel
theorem dX8_hasVoter_16 : decode cX8_hasVoter 16 = .ok (.iconst 0, 1) := by decide +kernel
theorem dX8_hasVoter_17 : decode cX8_hasVoter 17 = .ok (.ireturn, 1) := by decide +kernel
theorem dX8_hasPlace_0 : decode cX8_hasPlace 0 = .ok (.iload_n 1, 1) := by decide +kernel
theorem dX8_hasPlace_1 : decode cX8_hasPlace 1 = .ok (.ifCond .lt 15, 3) := by decide +kernel
theorem dX8_hasPlace_4 : decode cX8_hasPlace 4 = .ok (.iload_n 1, 1) := by decide +kernel
theorem dX8_hasPlace_5 : decode cX8_hasPlace 5 = .ok (.aload_n 0, 1) := by decide +kernel
theorem dX8_hasPlace_6 : decode cX8_hasPlace 6 = .ok (.getfield 43, 3) := by decide +kernel
theorem dX8_hasPlace_9 : decode cX8_hasPlace 9 = .ok (.if_icmp .ge 7, 3) := by decide +kernel
theorem dX8_hasPlace_12 : decode cX8_hasPlace 12 = .ok (.iconst 1, 1) := by decide +kernel
theorem dX8_hasPlace_13 : decode cX8_hasPlace 13 = .ok (.goto 4, 3) := by decide +kernel
theorem dX8_hasPlace_16 : decode cX8_hasPlace 16 = .ok (.iconst 0, 1) := by decide +kernel
theorem dX8_hasPlace_17 : decode cX8_hasPlace 17 = .ok (.ireturn, 1) := by decide +kernel
theorem dX8_isAt_0 : decode cX8_isAt 0 = .ok (.aload_n 0, 1) := by decide +kernel
theorem dX8_isAt_1 : decode cX8_isAt 1 = .ok (.getfield 9, 3) := by decide +kernel
theorem dX8_isAt_4 : decode cX8_isAt 4 = .ok (.iload_n 1, 1) := by decide +kernel
theorem dX8_isAt_5 : decode cX8_isAt 5 = .ok (.iaload, 1) := by decide +kernel
theorem dX8_isAt_6 : decode cX8_isAt 6 = .ok (.iload_n 2, 1) := by decide +kernel
theorem dX8_isAt_7 : decode cX8_isAt 7 = .ok (.if_icmp .ne 17, 3) := by decide +kernel
theorem dX8_isAt_10 : decode cX8_isAt 10 = .ok (.aload_n 0, 1) := by decide +kernel
theorem dX8_isAt_11 : decode cX8_isAt 11 = .ok (.getfield 15, 3) := by decide +kernel
theorem dX8_isAt_14 : decode cX8_isAt 14 = .ok (.iload_n 1, 1) := by decide +kernel
theorem dX8_isAt_15 : decode cX8_isAt 15 = .ok (.iaload, 1) := by decide +kernel
theorem dX8_isAt_16 : decode cX8_isAt 16 = .ok (.iload_n 3, 1) := by decide +kernel
theorem dX8_isAt_17 : decode cX8_isAt 17 = .ok (.if_icmp .ne 7, 3) := by decide +kernel
theorem dX8_isAt_20 : decode cX8_isAt 20 = .ok (.iconst 1, 1) := by decide +kernel
theorem dX8_isAt_21 : decode cX8_isAt 21 = .ok (.goto 4, 3) := by decide +kernel
theorem dX8_isAt_24 : decode cX8_isAt 24 = .ok (.iconst 0, 1) := by decide +kernel
theorem dX8_isAt_25 : decode cX8_isAt 25 = .ok (.ireturn, 1) := by decide +kernel
theorem dX8_addVoter_0 : decode cX8_addVoter 0 = .ok (.aload_n 0, 1) := by decide +kernel
theorem dX8_addVoter_1 : decode cX8_addVoter 1 = .ok (.getfield 36, 3) := by decide +kernel
theorem dX8_addVoter_4 : decode cX8_addVoter 4 = .ok (.bipush 15, 2) := by decide +kernel
theorem dX8_addVoter_6 : decode cX8_addVoter 6 = .ok (.if_icmp .lt 4, 3) := by decide +kernel
theorem dX8_addVoter_9 : decode cX8_addVoter 9 = .ok (.return_, 1) := by decide +kernel
theorem dX8_addVoter_10 : decode cX8_addVoter 10 = .ok (.aload_n 0, 1) := by decide +kernel
theorem dX8_addVoter_11 : decode cX8_addVoter 11 = .ok (.getfield 9, 3) := by decide +kernel
theorem dX8_addVoter_14 : decode cX8_addVoter 14 = .ok (.aload_n 0, 1) := by decide +kernel
theorem dX8_addVoter_15 : decode cX8_addVoter 15 = .ok (.getfield 36, 3) := by decide +kernel
theorem dX8_addVoter_18 : decode cX8_addVoter 18 = .ok (.iload_n 1, 1) := by decide +kernel
theorem dX8_addVoter_19 : decode cX8_addVoter 19 = .ok (.iastore, 1) := by decide +kernel
theorem dX8_addVoter_20 : decode cX8_addVoter 20 = .ok (.aload_n 0, 1) := by decide +kernel
theorem dX8_addVoter_21 : decode cX8_addVoter 21 = .ok (.getfield 15, 3) := by decide +kernel
theorem dX8_addVoter_24 : decode cX8_addVoter 24 = .ok (.aload_n 0, 1) := by decide +kernel
theorem dX8_addVoter_25 : decode cX8_addVoter 25 = .ok (.getfield 36, 3) := by decide +kernel
theorem dX8_addVoter_28 : decode cX8_addVoter 28 = .ok (.iload_n 2, 1) := by decide +kernel
theorem dX8_addVoter_29 : decode cX8_addVoter 29 = .ok (.iastore, 1) := by decide +kernel
theorem dX8_addVoter_30 : decode cX8_addVoter 30 = .ok (.aload_n 0, 1) := by decide +kernel
theorem dX8_addVoter_31 : decode cX8_addVoter 31 = .ok (.getfield 18, 3) := by decide +kernel
theorem dX8_addVoter_34 : decode cX8_addVoter 34 = .ok (.aload_n 0, 1) := by decide +kernel
theorem dX8_addVoter_35 : decode cX8_addVoter 35 = .ok (.getfield 36, 3) := by decide +kernel
theorem dX8_addVoter_38 : decode cX8_addVoter 38 = .ok (.iload_n 3, 1) := by decide +kernel
theorem dX8_addVoter_39 : decode cX8_addVoter 39 = .ok (.iastore, 1) := by decide +kernel
theorem dX8_addVoter_40 : decode cX8_addVoter 40 = .ok (.aload_n 0, 1) := by decide +kernel
theorem dX8_addVoter_41 : decode cX8_addVoter 41 = .ok (.getfield 21, 3) := by decide +kernel
theorem dX8_addVoter_44 : decode cX8_addVoter 44 = .ok (.aload_n 0, 1) := by decide +kernel
theorem dX8_addVoter_45 : decode cX8_addVoter 45 = .ok (.getfield 36, 3) := by decide +kernel
theorem dX8_addVoter_48 : decode cX8_addVoter 48 = .ok (.iload 4, 2) := by decide +kernel
theorem dX8_addVoter_50 : decode cX8_addVoter 50 = .ok (.iastore, 1) := by decide +kernel
theorem dX8_addVoter_51 : decode cX8_addVoter 51 = .ok (.aload_n 0, 1) := by decide +kernel
theorem dX8_addVoter_52 : decode cX8_addVoter 52 = .ok (.getfield 24, 3) := by decide +kernel
theorem dX8_addVoter_55 : decode cX8_addVoter 55 = .ok (.aload_n 0, 1) := by decide +kernel
theorem dX8_addVoter_56 : decode cX8_addVoter 56 = .ok (.getfield 36, 3) := by decide +kernel
theorem dX8_addVoter_59 : decode cX8_addVoter 59 = .ok (.iload 5, 2) := by decide +kernel
theorem dX8_addVoter_61 : decode cX8_addVoter 61 = .ok (.iastore, 1) := by decide +kernel
theorem dX8_addVoter_62 : decode cX8_addVoter 62 = .ok (.aload_n 0, 1) := by decide +kernel
theorem dX8_addVoter_63 : decode cX8_addVoter 63 = .ok (.getfield 27, 3) := by decide +kernel
theorem dX8_addVoter_66 : decode cX8_addVoter 66 = .ok (.aload_n 0, 1) := by decide +kernel
theorem dX8_addVoter_67 : decode cX8_addVoter 67 = .ok (.getfield 36, 3) := by decide +kernel
theorem dX8_addVoter_70 : decode cX8_addVoter 70 = .ok (.iload 6, 2) := by decide +kernel
theorem dX8_addVoter_72 : decode cX8_addVoter 72 = .ok (.iastore, 1) := by decide +kernel
theorem dX8_addVoter_73 : decode cX8_addVoter 73 = .ok (.aload_n 0, 1) := by decide +kernel
theorem dX8_addVoter_74 : decode cX8_addVoter 74 = .ok (.dup, 1) := by decide +kernel
theorem dX8_addVoter_75 : decode cX8_addVoter 75 = .ok (.getfield 36, 3) := by decide +kernel
theorem dX8_addVoter_78 : decode cX8_addVoter 78 = .ok (.iconst 1, 1) := by decide +kernel
theorem dX8_addVoter_79 : decode cX8_addVoter 79 = .ok (.iadd, 1) := by decide +kernel
theorem dX8_addVoter_80 : decode cX8_addVoter 80 = .ok (.putfield 36, 3) := by decide +kernel
theorem dX8_addVoter_83 : decode cX8_addVoter 83 = .ok (.aload_n 0, 1) := by decide +kernel
theorem dX8_addVoter_84 : decode cX8_addVoter 84 = .ok (.dup, 1) := by decide +kernel
theorem dX8_addVoter_85 : decode cX8_addVoter 85 = .ok (.getfield 40, 3) := by decide +kernel
theorem dX8_addVoter_88 : decode cX8_addVoter 88 = .ok (.iload_n 3, 1) := by decide +kernel
theorem dX8_addVoter_89 : decode cX8_addVoter 89 = .ok (.iadd, 1) := by decide +kernel
theorem dX8_addVoter_90 : decode cX8_addVoter 90 = .ok (.putfield 40, 3) := by decide +kernel
theorem dX8_addVoter_93 : decode cX8_addVoter 93 = .ok (.aload_n 0, 1) := by decide +kernel
theorem dX8_addVoter_94 : decode cX8_addVoter 94 = .ok (.dup, 1) := by decide +kernel
theorem dX8_addVoter_95 : decode cX8_addVoter 95 = .ok (.getfield 55, 3) := by decide +kernel
theorem dX8_addVoter_98 : decode cX8_addVoter 98 = .ok (.iconst 1, 1) := by decide +kernel
theorem dX8_addVoter_99 : decode cX8_addVoter 99 = .ok (.iadd, 1) := by decide +kernel
theorem dX8_addVoter_100 : decode cX8_addVoter 100 = .ok (.putfield 55, 3) := by decide +kernel
theorem dX8_addVoter_103 : decode cX8_addVoter 103 = .ok (.return_, 1) := by decide +kernel
theorem dX8_addPlace_0 : decode cX8_addPlace 0 = .ok (.aload_n 0, 1) := by decide +kernel
theorem dX8_addPlace_1 : decode cX8_addPlace 1 = .ok (.getfield 43, 3) := by decide +kernel
theorem dX8_addPlace_4 : decode cX8_addPlace 4 = .ok (.bipush 20, 2) := by decide +kernel
theorem dX8_addPlace_6 : decode cX8_addPlace 6 = .ok (.if_icmp .lt 4, 3) := by decide +kernel
theorem dX8_addPlace_9 : decode cX8_addPlace 9 = .ok (.return_, 1) := by decide +kernel
theorem dX8_addPlace_10 : decode cX8_addPlace 10 = .ok (.aload_n 0, 1) := by decide +kernel
theorem dX8_addPlace_11 : decode cX8_addPlace 11 = .ok (.getfield 30, 3) := by decide +kernel
theorem dX8_addPlace_14 : decode cX8_addPlace 14 = .ok (.aload_n 0, 1) := by decide +kernel
theorem dX8_addPlace_15 : decode cX8_addPlace 15 = .ok (.getfield 43, 3) := by decide +kernel
theorem dX8_addPlace_18 : decode cX8_addPlace 18 = .ok (.iload_n 1, 1) := by decide +kernel
theorem dX8_addPlace_19 : decode cX8_addPlace 19 = .ok (.iastore, 1) := by decide +kernel
theorem dX8_addPlace_20 : decode cX8_addPlace 20 = .ok (.aload_n 0, 1) := by decide +kernel
theorem dX8_addPlace_21 : decode cX8_addPlace 21 = .ok (.getfield 33, 3) := by decide +kernel
theorem dX8_addPlace_24 : decode cX8_addPlace 24 = .ok (.aload_n 0, 1) := by decide +kernel
theorem dX8_addPlace_25 : decode cX8_addPlace 25 = .ok (.getfield 43, 3) := by decide +kernel
theorem dX8_addPlace_28 : decode cX8_addPlace 28 = .ok (.iload_n 2, 1) := by decide +kernel
theorem dX8_addPlace_29 : decode cX8_addPlace 29 = .ok (.iastore, 1) := by decide +kernel
theorem dX8_addPlace_30 : decode cX8_addPlace 30 = .ok (.aload_n 0, 1) := by decide +kernel
theorem dX8_addPlace_31 : decode cX8_addPlace 31 = .ok (.dup, 1) := by decide +kernel
theorem dX8_addPlace_32 : decode cX8_addPlace 32 = .ok (.getfield 43, 3) := by decide +kernel
theorem dX8_addPlace_35 : decode cX8_addPlace 35 = .ok (.iconst 1, 1) := by decide +kernel
theorem dX8_addPlace_36 : decode cX8_addPlace 36 = .ok (.iadd, 1) := by decide +kernel
theorem dX8_addPlace_37 : decode cX8_addPlace 37 = .ok (.putfield 43, 3) := by decide +kernel
theorem dX8_addPlace_40 : decode cX8_addPlace 40 = .ok (.aload_n 0, 1) := by decide +kernel
theorem dX8_addPlace_41 : decode cX8_addPlace 41 = .ok (.dup, 1) := by decide +kernel
theorem dX8_addPlace_42 : decode cX8_addPlace 42 = .ok (.getfield 58, 3) := by decide +kernel
theorem dX8_addPlace_45 : decode cX8_addPlace 45 = .ok (.iconst 1, 1) := by decide +kernel
theorem dX8_addPlace_46 : decode cX8_addPlace 46 = .ok (.iadd, 1) := by decide +kernel
theorem dX8_addPlace_47 : decode cX8_addPlace 47 = .ok (.putfield 58, 3) := by decide +kernel
theorem dX8_addPlace_50 : decode cX8_addPlace 50 = .ok (.return_, 1) := by decide +kernel
theorem dX8_put_0 : decode cX8_put 0 = .ok (.aload_n 0, 1) := by decide +kernel
theorem dX8_put_1 : decode cX8_put 1 = .ok (.iload_n 1, 1) := by decide +kernel
theorem dX8_put_2 : decode cX8_put 2 = .ok (.invokevirtual 61, 3) := by decide +kernel
theorem dX8_put_5 : decode cX8_put 5 = .ok (.ifCond .ne 4, 3) := by decide +kernel
theorem dX8_put_8 : decode cX8_put 8 = .ok (.return_, 1) := by decide +kernel
theorem dX8_put_9 : decode cX8_put 9 = .ok (.aload_n 0, 1) := by decide +kernel
theorem dX8_put_10 : decode cX8_put 10 = .ok (.getfield 9, 3) := by decide +kernel
theorem dX8_put_13 : decode cX8_put 13 = .ok (.iload_n 1, 1) := by decide +kernel
theorem dX8_put_14 : decode cX8_put 14 = .ok (.iload_n 2, 1) := by decide +kernel
theorem dX8_put_15 : decode cX8_put 15 = .ok (.iastore, 1) := by decide +kernel
theorem dX8_put_16 : decode cX8_put 16 = .ok (.aload_n 0, 1) := by decide +kernel
theorem dX8_put_17 : decode cX8_put 17 = .ok (.getfield 15, 3) := by decide +kernel
theorem dX8_put_20 : decode cX8_put 20 = .ok (.iload_n 1, 1) := by decide +kernel
theorem dX8_put_21 : decode cX8_put 21 = .ok (.iload_n 3, 1) := by decide +kernel
theorem dX8_put_22 : decode cX8_put 22 = .ok (.iastore, 1) := by decide +kernel
theorem dX8_put_23 : decode cX8_put 23 = .ok (.aload_n 0, 1) := by decide +kernel
theorem dX8_put_24 : decode cX8_put 24 = .ok (.dup, 1) := by decide +kernel
theorem dX8_put_25 : decode cX8_put 25 = .ok (.getfield 55, 3) := by decide +kernel
theorem dX8_put_28 : decode cX8_put 28 = .ok (.iconst 1, 1) := by decide +kernel
theorem dX8_put_29 : decode cX8_put 29 = .ok (.iadd, 1) := by decide +kernel
theorem dX8_put_30 : decode cX8_put 30 = .ok (.putfield 55, 3) := by decide +kernel
theorem dX8_put_33 : decode cX8_put 33 = .ok (.return_, 1) := by decide +kernel
theorem dX8_takeFrom_0 : decode cX8_takeFrom 0 = .ok (.aload_n 0, 1) := by decide +kernel
theorem dX8_takeFrom_1 : decode cX8_takeFrom 1 = .ok (.invokevirtual 65, 3) := by decide +kernel
theorem dX8_takeFrom_4 : decode cX8_takeFrom 4 = .ok (.iconst 0, 1) := by decide +kernel
theorem dX8_takeFrom_5 : decode cX8_takeFrom 5 = .ok (.istore_n 2, 1) := by decide +kernel
theorem dX8_takeFrom_6 : decode cX8_takeFrom 6 = .ok (.iload_n 2, 1) := by decide +kernel
theorem dX8_takeFrom_7 : decode cX8_takeFrom 7 = .ok (.aload_n 1, 1) := by decide +kernel
theorem dX8_takeFrom_8 : decode cX8_takeFrom 8 = .ok (.getfield 36, 3) := by decide +kernel
theorem dX8_takeFrom_11 : decode cX8_takeFrom 11 = .ok (.if_icmp .ge 55, 3) := by decide +kernel
theorem dX8_takeFrom_14 : decode cX8_takeFrom 14 = .ok (.iload_n 2, 1) := by decide +kernel
theorem dX8_takeFrom_15 : decode cX8_takeFrom 15 = .ok (.bipush 15, 2) := by decide +kernel
theorem dX8_takeFrom_17 : decode cX8_takeFrom 17 = .ok (.if_icmp .ge 49, 3) := by decide +kernel
theorem dX8_takeFrom_20 : decode cX8_takeFrom 20 = .ok (.aload_n 0, 1) := by decide +kernel
theorem dX8_takeFrom_21 : decode cX8_takeFrom 21 = .ok (.aload_n 1, 1) := by decide +kernel
theorem dX8_takeFrom_22 : decode cX8_takeFrom 22 = .ok (.getfield 9, 3) := by decide +kernel
theorem dX8_takeFrom_25 : decode cX8_takeFrom 25 = .ok (.iload_n 2, 1) := by decide +kernel
theorem dX8_takeFrom_26 : decode cX8_takeFrom 26 = .ok (.iaload, 1) := by decide +kernel
theorem dX8_takeFrom_27 : decode cX8_takeFrom 27 = .ok (.aload_n 1, 1) := by decide +kernel
theorem dX8_takeFrom_28 : decode cX8_takeFrom 28 = .ok (.getfield 15, 3) := by decide +kernel
theorem dX8_takeFrom_31 : decode cX8_takeFrom 31 = .ok (.iload_n 2, 1) := by decide +kernel
theorem dX8_takeFrom_32 : decode cX8_takeFrom 32 = .ok (.iaload, 1) := by decide +kernel
theorem dX8_takeFrom_33 : decode cX8_takeFrom 33 = .ok (.aload_n 1, 1) := by decide +kernel
theorem dX8_takeFrom_34 : decode cX8_takeFrom 34 = .ok (.getfield 18, 3) := by decide +kernel
theorem dX8_takeFrom_37 : decode cX8_takeFrom 37 = .ok (.iload_n 2, 1) := by decide +kernel
theorem dX8_takeFrom_38 : decode cX8_takeFrom 38 = .ok (.iaload, 1) := by decide +kernel
theorem dX8_takeFrom_39 : decode cX8_takeFrom 39 = .ok (.aload_n 1, 1) := by decide +kernel
theorem dX8_takeFrom_40 : decode cX8_takeFrom 40 = .ok (.getfield 21, 3) := by decide +kernel
theorem dX8_takeFrom_43 : decode cX8_takeFrom 43 = .ok (.iload_n 2, 1) := by decide +kernel
theorem dX8_takeFrom_44 : decode cX8_takeFrom 44 = .ok (.iaload, 1) := by decide +kernel
theorem dX8_takeFrom_45 : decode cX8_takeFrom 45 = .ok (.aload_n 1, 1) := by decide +kernel
theorem dX8_takeFrom_46 : decode cX8_takeFrom 46 = .ok (.getfield 24, 3) := by decide +kernel
theorem dX8_takeFrom_49 : decode cX8_takeFrom 49 = .ok (.iload_n 2, 1) := by decide +kernel
theorem dX8_takeFrom_50 : decode cX8_takeFrom 50 = .ok (.iaload, 1) := by decide +kernel
theorem dX8_takeFrom_51 : decode cX8_takeFrom 51 = .ok (.aload_n 1, 1) := by decide +kernel
theorem dX8_takeFrom_52 : decode cX8_takeFrom 52 = .ok (.getfield 27, 3) := by decide +kernel
theorem dX8_takeFrom_55 : decode cX8_takeFrom 55 = .ok (.iload_n 2, 1) := by decide +kernel
theorem dX8_takeFrom_56 : decode cX8_takeFrom 56 = .ok (.iaload, 1) := by decide +kernel
theorem dX8_takeFrom_57 : decode cX8_takeFrom 57 = .ok (.invokevirtual 68, 3) := by decide +kernel
theorem dX8_takeFrom_60 : decode cX8_takeFrom 60 = .ok (.iinc 2 1, 3) := by decide +kernel
theorem dX8_takeFrom_63 : decode cX8_takeFrom 63 = .ok (.goto (-57), 3) := by decide +kernel
theorem dX8_takeFrom_66 : decode cX8_takeFrom 66 = .ok (.iconst 0, 1) := by decide +kernel
theorem dX8_takeFrom_67 : decode cX8_takeFrom 67 = .ok (.istore_n 2, 1) := by decide +kernel
theorem dX8_takeFrom_68 : decode cX8_takeFrom 68 = .ok (.iload_n 2, 1) := by decide +kernel
theorem dX8_takeFrom_69 : decode cX8_takeFrom 69 = .ok (.aload_n 1, 1) := by decide +kernel
theorem dX8_takeFrom_70 : decode cX8_takeFrom 70 = .ok (.getfield 43, 3) := by decide +kernel
theorem dX8_takeFrom_73 : decode cX8_takeFrom 73 = .ok (.if_icmp .ge 31, 3) := by decide +kernel
theorem dX8_takeFrom_76 : decode cX8_takeFrom 76 = .ok (.iload_n 2, 1) := by decide +kernel
theorem dX8_takeFrom_77 : decode cX8_takeFrom 77 = .ok (.bipush 20, 2) := by decide +kernel
theorem dX8_takeFrom_79 : decode cX8_takeFrom 79 = .ok (.if_icmp .ge 25, 3) := by decide +kernel
theorem dX8_takeFrom_82 : decode cX8_takeFrom 82 = .ok (.aload_n 0, 1) := by decide +kernel
theorem dX8_takeFrom_83 : decode cX8_takeFrom 83 = .ok (.aload_n 1, 1) := by decide +kernel
theorem dX8_takeFrom_84 : decode cX8_takeFrom 84 = .ok (.getfield 30, 3) := by decide +kernel
theorem dX8_takeFrom_87 : decode cX8_takeFrom 87 = .ok (.iload_n 2, 1) := by decide +kernel
theorem dX8_takeFrom_88 : decode cX8_takeFrom 88 = .ok (.iaload, 1) := by decide +kernel
theorem dX8_takeFrom_89 : decode cX8_takeFrom 89 = .ok (.aload_n 1, 1) := by decide +kernel
theorem dX8_takeFrom_90 : decode cX8_takeFrom 90 = .ok (.getfield 33, 3) := by decide +kernel
theorem dX8_takeFrom_93 : decode cX8_takeFrom 93 = .ok (.iload_n 2, 1) := by decide +kernel
theorem dX8_takeFrom_94 : decode cX8_takeFrom 94 = .ok (.iaload, 1) := by decide +kernel
theorem dX8_takeFrom_95 : decode cX8_takeFrom 95 = .ok (.invokevirtual 72, 3) := by decide +kernel
theorem dX8_takeFrom_98 : decode cX8_takeFrom 98 = .ok (.iinc 2 1, 3) := by decide +kernel
theorem dX8_takeFrom_101 : decode cX8_takeFrom 101 = .ok (.goto (-33), 3) := by decide +kernel
theorem dX8_takeFrom_104 : decode cX8_takeFrom 104 = .ok (.aload_n 0, 1) := by decide +kernel
theorem dX8_takeFrom_105 : decode cX8_takeFrom 105 = .ok (.aload_n 1, 1) := by decide +kernel
theorem dX8_takeFrom_106 : decode cX8_takeFrom 106 = .ok (.getfield 46, 3) := by decide +kernel
theorem dX8_takeFrom_109 : decode cX8_takeFrom 109 = .ok (.putfield 46, 3) := by decide +kernel
theorem dX8_takeFrom_112 : decode cX8_takeFrom 112 = .ok (.aload_n 0, 1) := by decide +kernel
theorem dX8_takeFrom_113 : decode cX8_takeFrom 113 = .ok (.aload_n 1, 1) := by decide +kernel
theorem dX8_takeFrom_114 : decode cX8_takeFrom 114 = .ok (.getfield 49, 3) := by decide +kernel
theorem dX8_takeFrom_117 : decode cX8_takeFrom 117 = .ok (.putfield 49, 3) := by decide +kernel
theorem dX8_takeFrom_120 : decode cX8_takeFrom 120 = .ok (.aload_n 0, 1) := by decide +kernel
theorem dX8_takeFrom_121 : decode cX8_takeFrom 121 = .ok (.aload_n 1, 1) := by decide +kernel
theorem dX8_takeFrom_122 : decode cX8_takeFrom 122 = .ok (.getfield 52, 3) := by decide +kernel
theorem dX8_takeFrom_125 : decode cX8_takeFrom 125 = .ok (.putfield 52, 3) := by decide +kernel
theorem dX8_takeFrom_128 : decode cX8_takeFrom 128 = .ok (.return_, 1) := by decide +kernel
theorem dX8_wayOver_0 : decode cX8_wayOver 0 = .ok (.iload_n 2, 1) := by decide +kernel
theorem dX8_wayOver_1 : decode cX8_wayOver 1 = .ok (.aload_n 0, 1) := by decide +kernel
theorem dX8_wayOver_2 : decode cX8_wayOver 2 = .ok (.getfield 24, 3) := by decide +kernel
theorem dX8_wayOver_5 : decode cX8_wayOver 5 = .ok (.iload_n 1, 1) := by decide +kernel
theorem dX8_wayOver_6 : decode cX8_wayOver 6 = .ok (.iaload, 1) := by decide +kernel
theorem dX8_wayOver_7 : decode cX8_wayOver 7 = .ok (.imul, 1) := by decide +kernel
theorem dX8_wayOver_8 : decode cX8_wayOver 8 = .ok (.istore 4, 2) := by decide +kernel
theorem dX8_wayOver_10 : decode cX8_wayOver 10 = .ok (.iload_n 3, 1) := by decide +kernel
theorem dX8_wayOver_11 : decode cX8_wayOver 11 = .ok (.aload_n 0, 1) := by decide +kernel
theorem dX8_wayOver_12 : decode cX8_wayOver 12 = .ok (.getfield 27, 3) := by decide +kernel
theorem dX8_wayOver_15 : decode cX8_wayOver 15 = .ok (.iload_n 1, 1) := by decide +kernel
theorem dX8_wayOver_16 : decode cX8_wayOver 16 = .ok (.iaload, 1) := by decide +kernel
theorem dX8_wayOver_17 : decode cX8_wayOver 17 = .ok (.imul, 1) := by decide +kernel
theorem dX8_wayOver_18 : decode cX8_wayOver 18 = .ok (.istore 5, 2) := by decide +kernel
theorem dX8_wayOver_20 : decode cX8_wayOver 20 = .ok (.aload_n 0, 1) := by decide +kernel
theorem dX8_wayOver_21 : decode cX8_wayOver 21 = .ok (.getfield 21, 3) := by decide +kernel
theorem dX8_wayOver_24 : decode cX8_wayOver 24 = .ok (.iload_n 1, 1) := by decide +kernel
theorem dX8_wayOver_25 : decode cX8_wayOver 25 = .ok (.iaload, 1) := by decide +kernel
theorem dX8_wayOver_26 : decode cX8_wayOver 26 = .ok (.tableswitch 52 0 2 #[26, 38, 44], 26) := by decide +kernel
theorem dX8_wayOver_52 : decode cX8_wayOver 52 = .ok (.iload 4, 2) := by decide +kernel
theorem dX8_wayOver_54 : decode cX8_wayOver 54 = .ok (.iload 4, 2) := by decide +kernel
theorem dX8_wayOver_56 : decode cX8_wayOver 56 = .ok (.imul, 1) := by decide +kernel
theorem dX8_wayOver_57 : decode cX8_wayOver 57 = .ok (.iload 5, 2) := by decide +kernel
theorem dX8_wayOver_59 : decode cX8_wayOver 59 = .ok (.iload 5, 2) := by decide +kernel
theorem dX8_wayOver_61 : decode cX8_wayOver 61 = .ok (.imul, 1) := by decide +kernel
theorem dX8_wayOver_62 : decode cX8_wayOver 62 = .ok (.iadd, 1) := by decide +kernel
theorem dX8_wayOver_63 : decode cX8_wayOver 63 = .ok (.ireturn, 1) := by decide +kernel
theorem dX8_wayOver_64 : decode cX8_wayOver 64 = .ok (.iload 4, 2) := by decide +kernel
theorem dX8_wayOver_66 : decode cX8_wayOver 66 = .ok (.iload 5, 2) := by decide +kernel
theorem dX8_wayOver_68 : decode cX8_wayOver 68 = .ok (.iadd, 1) := by decide +kernel
theorem dX8_wayOver_69 : decode cX8_wayOver 69 = .ok (.ireturn, 1) := by decide +kernel
theorem dX8_wayOver_70 : decode cX8_wayOver 70 = .ok (.iload 4, 2) := by decide +kernel
theorem dX8_wayOver_72 : decode cX8_wayOver 72 = .ok (.iload 5, 2) := by decide +kernel
theorem dX8_wayOver_74 : decode cX8_wayOver 74 = .ok (.invokestatic 76, 3) := by decide +kernel
theorem dX8_wayOver_77 : decode cX8_wayOver 77 = .ok (.ireturn, 1) := by decide +kernel
theorem dX8_wayOver_78 : decode cX8_wayOver 78 = .ok (.iload 4, 2) := by decide +kernel
theorem dX8_wayOver_80 : decode cX8_wayOver 80 = .ok (.ireturn, 1) := by decide +kernel
theorem dX8_wayTo_0 : decode cX8_wayTo 0 = .ok (.aload_n 0, 1) := by decide +kernel
theorem dX8_wayTo_1 : decode cX8_wayTo 1 = .ok (.iload_n 1, 1) := by decide +kernel
theorem dX8_wayTo_2 : decode cX8_wayTo 2 = .ok (.iload_n 2, 1) := by decide +kernel
theorem dX8_wayTo_3 : decode cX8_wayTo 3 = .ok (.aload_n 0, 1) := by decide +kernel
theorem dX8_wayTo_4 : decode cX8_wayTo 4 = .ok (.getfield 9, 3) := by decide +kernel
theorem dX8_wayTo_7 : decode cX8_wayTo 7 = .ok (.iload_n 1, 1) := by decide +kernel
theorem dX8_wayTo_8 : decode cX8_wayTo 8 = .ok (.iaload, 1) := by decide +kernel
theorem dX8_wayTo_9 : decode cX8_wayTo 9 = .ok (.isub, 1) := by decide +kernel
theorem dX8_wayTo_10 : decode cX8_wayTo 10 = .ok (.invokestatic 82, 3) := by decide +kernel
theorem dX8_wayTo_13 : decode cX8_wayTo 13 = .ok (.iload_n 3, 1) := by decide +kernel
theorem dX8_wayTo_14 : decode cX8_wayTo 14 = .ok (.aload_n 0, 1) := by decide +kernel
theorem dX8_wayTo_15 : decode cX8_wayTo 15 = .ok (.getfield 15, 3) := by decide +kernel
theorem dX8_wayTo_18 : decode cX8_wayTo 18 = .ok (.iload_n 1, 1) := by decide +kernel
theorem dX8_wayTo_19 : decode cX8_wayTo 19 = .ok (.iaload, 1) := by decide +kernel
theorem dX8_wayTo_20 : decode cX8_wayTo 20 = .ok (.isub, 1) := by decide +kernel
theorem dX8_wayTo_21 : decode cX8_wayTo 21 = .ok (.invokestatic 82, 3) := by decide +kernel
theorem dX8_wayTo_24 : decode cX8_wayTo 24 = .ok (.invokevirtual 86, 3) := by decide +kernel
theorem dX8_wayTo_27 : decode cX8_wayTo 27 = .ok (.ireturn, 1) := by decide +kernel
theorem dX8_weightFor_0 : decode cX8_weightFor 0 = .ok (.iconst 0, 1) := by decide +kernel
theorem dX8_weightFor_1 : decode cX8_weightFor 1 = .ok (.istore_n 3, 1) := by decide +kernel
theorem dX8_weightFor_2 : decode cX8_weightFor 2 = .ok (.iconst 0, 1) := by decide +kernel
theorem dX8_weightFor_3 : decode cX8_weightFor 3 = .ok (.istore 4, 2) := by decide +kernel
theorem dX8_weightFor_5 : decode cX8_weightFor 5 = .ok (.iload 4, 2) := by decide +kernel
theorem dX8_weightFor_7 : decode cX8_weightFor 7 = .ok (.aload_n 0, 1) := by decide +kernel
theorem dX8_weightFor_8 : decode cX8_weightFor 8 = .ok (.getfield 36, 3) := by decide +kernel
theorem dX8_weightFor_11 : decode cX8_weightFor 11 = .ok (.if_icmp .ge 58, 3) := by decide +kernel
theorem dX8_weightFor_14 : decode cX8_weightFor 14 = .ok (.aload_n 0, 1) := by decide +kernel
theorem dX8_weightFor_15 : decode cX8_weightFor 15 = .ok (.iload 4, 2) := by decide +kernel
theorem dX8_weightFor_17 : decode cX8_weightFor 17 = .ok (.iload_n 1, 1) := by decide +kernel
theorem dX8_weightFor_18 : decode cX8_weightFor 18 = .ok (.bipush 100, 2) := by decide +kernel
theorem dX8_weightFor_20 : decode cX8_weightFor 20 = .ok (.idiv, 1) := by decide +kernel
theorem dX8_weightFor_21 : decode cX8_weightFor 21 = .ok (.iload_n 1, 1) := by decide +kernel
theorem dX8_weightFor_22 : decode cX8_weightFor 22 = .ok (.bipush 100, 2) := by decide +kernel
theorem dX8_weightFor_24 : decode cX8_weightFor 24 = .ok (.irem, 1) := by decide +kernel
theorem dX8_weightFor_25 : decode cX8_weightFor 25 = .ok (.invokevirtual 90, 3) := by decide +kernel
theorem dX8_weightFor_28 : decode cX8_weightFor 28 = .ok (.istore 5, 2) := by decide +kernel
theorem dX8_weightFor_30 : decode cX8_weightFor 30 = .ok (.aload_n 0, 1) := by decide +kernel
theorem dX8_weightFor_31 : decode cX8_weightFor 31 = .ok (.iload 4, 2) := by decide +kernel
theorem dX8_weightFor_33 : decode cX8_weightFor 33 = .ok (.iload_n 2, 1) := by decide +kernel
theorem dX8_weightFor_34 : decode cX8_weightFor 34 = .ok (.bipush 100, 2) := by decide +kernel
theorem dX8_weightFor_36 : decode cX8_weightFor 36 = .ok (.idiv, 1) := by decide +kernel
theorem dX8_weightFor_37 : decode cX8_weightFor 37 = .ok (.iload_n 2, 1) := by decide +kernel
theorem dX8_weightFor_38 : decode cX8_weightFor 38 = .ok (.bipush 100, 2) := by decide +kernel
theorem dX8_weightFor_40 : decode cX8_weightFor 40 = .ok (.irem, 1) := by decide +kernel
theorem dX8_weightFor_41 : decode cX8_weightFor 41 = .ok (.invokevirtual 90, 3) := by decide +kernel
theorem dX8_weightFor_44 : decode cX8_weightFor 44 = .ok (.istore 6, 2) := by decide +kernel
theorem dX8_weightFor_46 : decode cX8_weightFor 46 = .ok (.iload 5, 2) := by decide +kernel
theorem dX8_weightFor_48 : decode cX8_weightFor 48 = .ok (.iload 6, 2) := by decide +kernel
theorem dX8_weightFor_50 : decode cX8_weightFor 50 = .ok (.if_icmp .ge 13, 3) := by decide +kernel
theorem dX8_weightFor_53 : decode cX8_weightFor 53 = .ok (.iload_n 3, 1) := by decide +kernel
theorem dX8_weightFor_54 : decode cX8_weightFor 54 = .ok (.aload_n 0, 1) := by decide +kernel
theorem dX8_weightFor_55 : decode cX8_weightFor 55 = .ok (.getfield 18, 3) := by decide +kernel
theorem dX8_weightFor_58 : decode cX8_weightFor 58 = .ok (.iload 4, 2) := by decide +kernel
theorem dX8_weightFor_60 : decode cX8_weightFor 60 = .ok (.iaload, 1) := by decide +kernel
theorem dX8_weightFor_61 : decode cX8_weightFor 61 = .ok (.iadd, 1) := by decide +kernel
theorem dX8_weightFor_62 : decode cX8_weightFor 62 = .ok (.istore_n 3, 1) := by decide +kernel
theorem dX8_weightFor_63 : decode cX8_weightFor 63 = .ok (.iinc 4 1, 3) := by decide +kernel
theorem dX8_weightFor_66 : decode cX8_weightFor 66 = .ok (.goto (-61), 3) := by decide +kernel
theorem dX8_weightFor_69 : decode cX8_weightFor 69 = .ok (.iload_n 3, 1) := by decide +kernel
theorem dX8_weightFor_70 : decode cX8_weightFor 70 = .ok (.ireturn, 1) := by decide +kernel
theorem dX8_isEnough_0 : decode cX8_isEnough 0 = .ok (.aload_n 0, 1) := by decide +kernel
theorem dX8_isEnough_1 : decode cX8_isEnough 1 = .ok (.getfield 46, 3) := by decide +kernel
theorem dX8_isEnough_4 : decode cX8_isEnough 4 = .ok (.lookupswitch 81 #[(1, 28), (2, 52)], 28) := by decide +kernel
theorem dX8_isEnough_32 : decode cX8_isEnough 32 = .ok (.iload_n 1, 1) := by decide +kernel
theorem dX8_isEnough_33 : decode cX8_isEnough 33 = .ok (.aload_n 0, 1) := by decide +kernel
theorem dX8_isEnough_34 : decode cX8_isEnough 34 = .ok (.getfield 52, 3) := by decide +kernel
theorem dX8_isEnough_37 : decode cX8_isEnough 37 = .ok (.imul, 1) := by decide +kernel
theorem dX8_isEnough_38 : decode cX8_isEnough 38 = .ok (.aload_n 0, 1) := by decide +kernel
theorem dX8_isEnough_39 : decode cX8_isEnough 39 = .ok (.getfield 49, 3) := by decide +kernel
theorem dX8_isEnough_42 : decode cX8_isEnough 42 = .ok (.aload_n 0, 1) := by decide +kernel
theorem dX8_isEnough_43 : decode cX8_isEnough 43 = .ok (.getfield 40, 3) := by decide +kernel
theorem dX8_isEnough_46 : decode cX8_isEnough 46 = .ok (.imul, 1) := by decide +kernel
theorem dX8_isEnough_47 : decode cX8_isEnough 47 = .ok (.if_icmp .le 7, 3) := by decide +kernel
theorem dX8_isEnough_50 : decode cX8_isEnough 50 = .ok (.iconst 1, 1) := by decide +kernel
theorem dX8_isEnough_51 : decode cX8_isEnough 51 = .ok (.goto 4, 3) := by decide +kernel
theorem dX8_isEnough_54 : decode cX8_isEnough 54 = .ok (.iconst 0, 1) := by decide +kernel
theorem dX8_isEnough_55 : decode cX8_isEnough 55 = .ok (.ireturn, 1) := by decide +kernel
theorem dX8_isEnough_56 : decode cX8_isEnough 56 = .ok (.iload_n 1, 1) := by decide +kernel
theorem dX8_isEnough_57 : decode cX8_isEnough 57 = .ok (.aload_n 0, 1) := by decide +kernel
theorem dX8_isEnough_58 : decode cX8_isEnough 58 = .ok (.getfield 52, 3) := by decide +kernel
theorem dX8_isEnough_61 : decode cX8_isEnough 61 = .ok (.imul, 1) := by decide +kernel
theorem dX8_isEnough_62 : decode cX8_isEnough 62 = .ok (.aload_n 0, 1) := by decide +kernel
theorem dX8_isEnough_63 : decode cX8_isEnough 63 = .ok (.getfield 49, 3) := by decide +kernel
theorem dX8_isEnough_66 : decode cX8_isEnough 66 = .ok (.aload_n 0, 1) := by decide +kernel
theorem dX8_isEnough_67 : decode cX8_isEnough 67 = .ok (.getfield 40, 3) := by decide +kernel
theorem dX8_isEnough_70 : decode cX8_isEnough 70 = .ok (.imul, 1) := by decide +kernel
theorem dX8_isEnough_71 : decode cX8_isEnough 71 = .ok (.if_icmp .lt 12, 3) := by decide +kernel
theorem dX8_isEnough_74 : decode cX8_isEnough 74 = .ok (.iload_n 1, 1) := by decide +kernel
theorem dX8_isEnough_75 : decode cX8_isEnough 75 = .ok (.iload_n 2, 1) := by decide +kernel
theorem dX8_isEnough_76 : decode cX8_isEnough 76 = .ok (.if_icmp .le 7, 3) := by decide +kernel
theorem dX8_isEnough_79 : decode cX8_isEnough 79 = .ok (.iconst 1, 1) := by decide +kernel
theorem dX8_isEnough_80 : decode cX8_isEnough 80 = .ok (.goto 4, 3) := by decide +kernel
theorem dX8_isEnough_83 : decode cX8_isEnough 83 = .ok (.iconst 0, 1) := by decide +kernel
theorem dX8_isEnough_84 : decode cX8_isEnough 84 = .ok (.ireturn, 1) := by decide +kernel
theorem dX8_isEnough_85 : decode cX8_isEnough 85 = .ok (.iload_n 1, 1) := by decide +kernel
theorem dX8_isEnough_86 : decode cX8_isEnough 86 = .ok (.iload_n 2, 1) := by decide +kernel
theorem dX8_isEnough_87 : decode cX8_isEnough 87 = .ok (.if_icmp .le 7, 3) := by decide +kernel
theorem dX8_isEnough_90 : decode cX8_isEnough 90 = .ok (.iconst 1, 1) := by decide +kernel
theorem dX8_isEnough_91 : decode cX8_isEnough 91 = .ok (.goto 4, 3) := by decide +kernel
theorem dX8_isEnough_94 : decode cX8_isEnough 94 = .ok (.iconst 0, 1) := by decide +kernel
theorem dX8_isEnough_95 : decode cX8_isEnough 95 = .ok (.ireturn, 1) := by decide +kernel
theorem dX8_isMoreThanHalf_0 : decode cX8_isMoreThanHalf 0 = .ok (.iconst 2, 1) := by decide +kernel
theorem dX8_isMoreThanHalf_1 : decode cX8_isMoreThanHalf 1 = .ok (.iload_n 1, 1) := by decide +kernel
theorem dX8_isMoreThanHalf_2 : decode cX8_isMoreThanHalf 2 = .ok (.imul, 1) := by decide +kernel
theorem dX8_isMoreThanHalf_3 : decode cX8_isMoreThanHalf 3 = .ok (.aload_n 0, 1) := by decide +kernel
theorem dX8_isMoreThanHalf_4 : decode cX8_isMoreThanHalf 4 = .ok (.getfield 40, 3) := by decide +kernel
theorem dX8_isMoreThanHalf_7 : decode cX8_isMoreThanHalf 7 = .ok (.if_icmp .le 7, 3) := by decide +kernel
theorem dX8_isMoreThanHalf_10 : decode cX8_isMoreThanHalf 10 = .ok (.iconst 1, 1) := by decide +kernel
theorem dX8_isMoreThanHalf_11 : decode cX8_isMoreThanHalf 11 = .ok (.goto 4, 3) := by decide +kernel
theorem dX8_isMoreThanHalf_14 : decode cX8_isMoreThanHalf 14 = .ok (.iconst 0, 1) := by decide +kernel
theorem dX8_isMoreThanHalf_15 : decode cX8_isMoreThanHalf 15 = .ok (.ireturn, 1) := by decide +kernel
theorem dX9_init_0 : decode cX9_init 0 = .ok (.aload_n 0, 1) := by decide +kernel
theorem dX9_init_1 : decode cX9_init 1 = .ok (.invokespecial 3, 3) := by decide +kernel
theorem dX9_init_4 : decode cX9_init 4 = .ok (.aload_n 0, 1) := by decide +kernel
theorem dX9_init_5 : decode cX9_init 5 = .ok (.bipush 20, 2) := by decide +kernel
theorem dX9_init_7 : decode cX9_init 7 = .ok (.newarray .int, 2) := by decide +kernel
theorem dX9_init_9 : decode cX9_init 9 = .ok (.putfield 9, 3) := by decide +kernel
theorem dX9_init_12 : decode cX9_init 12 = .ok (.aload_n 0, 1) := by decide +kernel
theorem dX9_init_13 : decode cX9_init 13 = .ok (.bipush 20, 2) := by decide +kernel
theorem dX9_init_15 : decode cX9_init 15 = .ok (.newarray .int, 2) := by decide +kernel
theorem dX9_init_17 : decode cX9_init 17 = .ok (.putfield 15, 3) := by decide +kernel
theorem dX9_init_20 : decode cX9_init 20 = .ok (.aload_n 0, 1) := by decide +kernel
theorem dX9_init_21 : decode cX9_init 21 = .ok (.sipush 180, 3) := by decide +kernel
theorem dX9_init_24 : decode cX9_init 24 = .ok (.newarray .int, 2) := by decide +kernel
theorem dX9_init_26 : decode cX9_init 26 = .ok (.putfield 18, 3) := by decide +kernel
theorem dX9_init_29 : decode cX9_init 29 = .ok (.aload_n 0, 1) := by decide +kernel
theorem dX9_init_30 : decode cX9_init 30 = .ok (.sipush 180, 3) := by decide +kernel
theorem dX9_init_33 : decode cX9_init 33 = .ok (.newarray .int, 2) := by decide +kernel
theorem dX9_init_35 : decode cX9_init 35 = .ok (.putfield 21, 3) := by decide +kernel
theorem dX9_init_38 : decode cX9_init 38 = .ok (.aload_n 0, 1) := by decide +kernel
theorem dX9_init_39 : decode cX9_init 39 = .ok (.iconst (-1), 1) := by decide +kernel
theorem dX9_init_40 : decode cX9_init 40 = .ok (.putfield 24, 3) := by decide +kernel
theorem dX9_init_43 : decode cX9_init 43 = .ok (.aload_n 0, 1) := by decide +kernel
theorem dX9_init_44 : decode cX9_init 44 = .ok (.iconst (-1), 1) := by decide +kernel
theorem dX9_init_45 : decode cX9_init 45 = .ok (.putfield 28, 3) := by decide +kernel
theorem dX9_init_48 : decode cX9_init 48 = .ok (.aload_n 0, 1) := by decide +kernel
theorem dX9_init_49 : decode cX9_init 49 = .ok (.iconst (-1), 1) := by decide +kernel
theorem dX9_init_50 : decode cX9_init 50 = .ok (.putfield 31, 3) := by decide +kernel
theorem dX9_init_53 : decode cX9_init 53 = .ok (.aload_n 0, 1) := by decide +kernel
theorem dX9_init_54 : decode cX9_init 54 = .ok (.iconst (-1), 1) := by decide +kernel
theorem dX9_init_55 : decode cX9_init 55 = .ok (.putfield 34, 3) := by decide +kernel
theorem dX9_init_58 : decode cX9_init 58 = .ok (.aload_n 0, 1) := by decide +kernel
theorem dX9_init_59 : decode cX9_init 59 = .ok (.iconst (-1), 1) := by decide +kernel
theorem dX9_init_60 : decode cX9_init 60 = .ok (.putfield 37, 3) := by decide +kernel
theorem dX9_init_63 : decode cX9_init 63 = .ok (.aload_n 0, 1) := by decide +kernel
theorem dX9_init_64 : decode cX9_init 64 = .ok (.aload_n 1, 1) := by decide +kernel
theorem dX9_init_65 : decode cX9_init 65 = .ok (.putfield 40, 3) := by decide +kernel
theorem dX9_init_68 : decode cX9_init 68 = .ok (.aload_n 0, 1) := by decide +kernel
theorem dX9_init_69 : decode cX9_init 69 = .ok (.aload_n 1, 1) := by decide +kernel
theorem dX9_init_70 : decode cX9_init 70 = .ok (.getfield 44, 3) := by decide +kernel
theorem dX9_init_73 : decode cX9_init 73 = .ok (.putfield 50, 3) := by decide +kernel
theorem dX9_init_76 : decode cX9_init 76 = .ok (.return_, 1) := by decide +kernel
theorem dX9_findMove_0 : decode cX9_findMove 0 = .ok (.aload_n 0, 1) := by decide +kernel
theorem dX9_findMove_1 : decode cX9_findMove 1 = .ok (.getfield 34, 3) := by decide +kernel
theorem dX9_findMove_4 : decode cX9_findMove 4 = .ok (.aload_n 0, 1) := by decide +kernel
theorem dX9_findMove_5 : decode cX9_findMove 5 = .ok (.getfield 50, 3) := by decide +kernel
theorem dX9_findMove_8 : decode cX9_findMove 8 = .ok (.getfield 51, 3) := by decide +kernel
theorem dX9_findMove_11 : decode cX9_findMove 11 = .ok (.if_icmp .ne 18, 3) := by decide +kernel
theorem dX9_findMove_14 : decode cX9_findMove 14 = .ok (.aload_n 0, 1) := by decide +kernel
theorem dX9_findMove_15 : decode cX9_findMove 15 = .ok (.getfield 37, 3) := by decide +kernel
theorem dX9_findMove_18 : decode cX9_findMove 18 = .ok (.aload_n 0, 1) := by decide +kernel
theorem dX9_findMove_19 : decode cX9_findMove 19 = .ok (.getfield 50, 3) := by decide +kernel
theorem dX9_findMove_22 : decode cX9_findMove 22 = .ok (.getfield 54, 3) := by decide +kernel
theorem dX9_findMove_25 : decode cX9_findMove 25 = .ok (.if_icmp .ne 4, 3) := by decide +kernel
theorem dX9_findMove_28 : decode cX9_findMove 28 = .ok (.return_, 1) := by decide +kernel
theorem dX9_findMove_29 : decode cX9_findMove 29 = .ok (.aload_n 0, 1) := by decide +kernel
theorem dX9_findMove_30 : decode cX9_findMove 30 = .ok (.aload_n 0, 1) := by decide +kernel
theorem dX9_findMove_31 : decode cX9_findMove 31 = .ok (.getfield 50, 3) := by decide +kernel
theorem dX9_findMove_34 : decode cX9_findMove 34 = .ok (.getfield 51, 3) := by decide +kernel
theorem dX9_findMove_37 : decode cX9_findMove 37 = .ok (.putfield 34, 3) := by decide +kernel
theorem dX9_findMove_40 : decode cX9_findMove 40 = .ok (.aload_n 0, 1) := by decide +kernel
theorem dX9_findMove_41 : decode cX9_findMove 41 = .ok (.aload_n 0, 1) := by decide +kernel
theorem dX9_findMove_42 : decode cX9_findMove 42 = .ok (.getfield 50, 3) := by decide +kernel
theorem dX9_findMove_45 : decode cX9_findMove 45 = .ok (.getfield 54, 3) := by decide +kernel
theorem dX9_findMove_48 : decode cX9_findMove 48 = .ok (.putfield 37, 3) := by decide +kernel
theorem dX9_findMove_51 : decode cX9_findMove 51 = .ok (.aload_n 0, 1) := by decide +kernel
theorem dX9_findMove_52 : decode cX9_findMove 52 = .ok (.iconst (-1), 1) := by decide +kernel
theorem dX9_findMove_53 : decode cX9_findMove 53 = .ok (.putfield 24, 3) := by decide +kernel
theorem dX9_findMove_56 : decode cX9_findMove 56 = .ok (.aload_n 0, 1) := by decide +kernel
theorem dX9_findMove_57 : decode cX9_findMove 57 = .ok (.iconst (-1), 1) := by decide +kernel
theorem dX9_findMove_58 : decode cX9_findMove 58 = .ok (.putfield 28, 3) := by decide +kernel
theorem dX9_findMove_61 : decode cX9_findMove 61 = .ok (.aload_n 0, 1) := by decide +kernel
theorem dX9_findMove_62 : decode cX9_findMove 62 = .ok (.iconst (-1), 1) := by decide +kernel
theorem dX9_findMove_63 : decode cX9_findMove 63 = .ok (.putfield 31, 3) := by decide +kernel
theorem dX9_findMove_66 : decode cX9_findMove 66 = .ok (.iconst 0, 1) := by decide +kernel
theorem dX9_findMove_67 : decode cX9_findMove 67 = .ok (.istore_n 1, 1) := by decide +kernel
theorem dX9_findMove_68 : decode cX9_findMove 68 = .ok (.iload_n 1, 1) := by decide +kernel
theorem dX9_findMove_69 : decode cX9_findMove 69 = .ok (.aload_n 0, 1) := by decide +kernel
theorem dX9_findMove_70 : decode cX9_findMove 70 = .ok (.getfield 50, 3) := by decide +kernel
theorem dX9_findMove_73 : decode cX9_findMove 73 = .ok (.getfield 55, 3) := by decide +kernel
theorem dX9_findMove_76 : decode cX9_findMove 76 = .ok (.if_icmp .ge 61, 3) := by decide +kernel
theorem dX9_findMove_79 : decode cX9_findMove 79 = .ok (.aload_n 0, 1) := by decide +kernel
theorem dX9_findMove_80 : decode cX9_findMove 80 = .ok (.iload_n 1, 1) := by decide +kernel
theorem dX9_findMove_81 : decode cX9_findMove 81 = .ok (.aload_n 0, 1) := by decide +kernel
theorem dX9_findMove_82 : decode cX9_findMove 82 = .ok (.getfield 50, 3) := by decide +kernel
theorem dX9_findMove_85 : decode cX9_findMove 85 = .ok (.getfield 58, 3) := by decide +kernel
theorem dX9_findMove_88 : decode cX9_findMove 88 = .ok (.iload_n 1, 1) := by decide +kernel
theorem dX9_findMove_89 : decode cX9_findMove 89 = .ok (.iaload, 1) := by decide +kernel
theorem dX9_findMove_90 : decode cX9_findMove 90 = .ok (.aload_n 0, 1) := by decide +kernel
theorem dX9_findMove_91 : decode cX9_findMove 91 = .ok (.getfield 50, 3) := by decide +kernel
theorem dX9_findMove_94 : decode cX9_findMove 94 = .ok (.getfield 61, 3) := by decide +kernel
theorem dX9_findMove_97 : decode cX9_findMove 97 = .ok (.iload_n 1, 1) := by decide +kernel
theorem dX9_findMove_98 : decode cX9_findMove 98 = .ok (.iaload, 1) := by decide +kernel
theorem dX9_findMove_99 : decode cX9_findMove 99 = .ok (.aload_n 0, 1) := by decide +kernel
theorem dX9_findMove_100 : decode cX9_findMove 100 = .ok (.getfield 9, 3) := by decide +kernel
theorem dX9_findMove_103 : decode cX9_findMove 103 = .ok (.invokevirtual 64, 3) := by decide +kernel
theorem dX9_findMove_106 : decode cX9_findMove 106 = .ok (.iconst 0, 1) := by decide +kernel
theorem dX9_findMove_107 : decode cX9_findMove 107 = .ok (.istore_n 2, 1) := by decide +kernel
theorem dX9_findMove_108 : decode cX9_findMove 108 = .ok (.iload_n 2, 1) := by decide +kernel
theorem dX9_findMove_109 : decode cX9_findMove 109 = .ok (.aload_n 0, 1) := by decide +kernel
theorem dX9_findMove_110 : decode cX9_findMove 110 = .ok (.getfield 50, 3) := by decide +kernel
theorem dX9_findMove_113 : decode cX9_findMove 113 = .ok (.getfield 68, 3) := by decide +kernel
theorem dX9_findMove_116 : decode cX9_findMove 116 = .ok (.if_icmp .ge 15, 3) := by decide +kernel
theorem dX9_findMove_119 : decode cX9_findMove 119 = .ok (.aload_n 0, 1) := by decide +kernel
theorem dX9_findMove_120 : decode cX9_findMove 120 = .ok (.iload_n 1, 1) := by decide +kernel
theorem dX9_findMove_121 : decode cX9_findMove 121 = .ok (.iload_n 2, 1) := by decide +kernel
theorem dX9_findMove_122 : decode cX9_findMove 122 = .ok (.invokevirtual 71, 3) := by decide +kernel
theorem dX9_findMove_125 : decode cX9_findMove 125 = .ok (.iinc 2 1, 3) := by decide +kernel
theorem dX9_findMove_128 : decode cX9_findMove 128 = .ok (.goto (-20), 3) := by decide +kernel
theorem dX9_findMove_131 : decode cX9_findMove 131 = .ok (.iinc 1 1, 3) := by decide +kernel
theorem dX9_findMove_134 : decode cX9_findMove 134 = .ok (.goto (-66), 3) := by decide +kernel
theorem dX9_findMove_137 : decode cX9_findMove 137 = .ok (.return_, 1) := by decide +kernel
theorem dX9_tryMove_0 : decode cX9_tryMove 0 = .ok (.aload_n 0, 1) := by decide +kernel
theorem dX9_tryMove_1 : decode cX9_tryMove 1 = .ok (.getfield 50, 3) := by decide +kernel
theorem dX9_tryMove_4 : decode cX9_tryMove 4 = .ok (.getfield 75, 3) := by decide +kernel
theorem dX9_tryMove_7 : decode cX9_tryMove 7 = .ok (.iload_n 2, 1) := by decide +kernel
theorem dX9_tryMove_8 : decode cX9_tryMove 8 = .ok (.iaload, 1) := by decide +kernel
theorem dX9_tryMove_9 : decode cX9_tryMove 9 = .ok (.aload_n 0, 1) := by decide +kernel
theorem dX9_tryMove_10 : decode cX9_tryMove 10 = .ok (.getfield 50, 3) := by decide +kernel
theorem dX9_tryMove_13 : decode cX9_tryMove 13 = .ok (.getfield 58, 3) := by decide +kernel
theorem dX9_tryMove_16 : decode cX9_tryMove 16 = .ok (.iload_n 1, 1) := by decide +kernel
theorem dX9_tryMove_17 : decode cX9_tryMove 17 = .ok (.iaload, 1) := by decide +kernel
theorem dX9_tryMove_18 : decode cX9_tryMove 18 = .ok (.isub, 1) := by decide +kernel
theorem dX9_tryMove_19 : decode cX9_tryMove 19 = .ok (.istore_n 3, 1) := by decide +kernel
theorem dX9_tryMove_20 : decode cX9_tryMove 20 = .ok (.aload_n 0, 1) := by decide +kernel
theorem dX9_tryMove_21 : decode cX9_tryMove 21 = .ok (.getfield 50, 3) := by decide +kernel
theorem dX9_tryMove_24 : decode cX9_tryMove 24 = .ok (.getfield 78, 3) := by decide +kernel
theorem dX9_tryMove_27 : decode cX9_tryMove 27 = .ok (.iload_n 2, 1) := by decide +kernel
theorem dX9_tryMove_28 : decode cX9_tryMove 28 = .ok (.iaload, 1) := by decide +kernel
theorem dX9_tryMove_29 : decode cX9_tryMove 29 = .ok (.aload_n 0, 1) := by decide +kernel
theorem dX9_tryMove_30 : decode cX9_tryMove 30 = .ok (.getfield 50, 3) := by decide +kernel
theorem dX9_tryMove_33 : decode cX9_tryMove 33 = .ok (.getfield 61, 3) := by decide +kernel
theorem dX9_tryMove_36 : decode cX9_tryMove 36 = .ok (.iload_n 1, 1) := by decide +kernel
theorem dX9_tryMove_37 : decode cX9_tryMove 37 = .ok (.iaload, 1) := by decide +kernel
theorem dX9_tryMove_38 : decode cX9_tryMove 38 = .ok (.isub, 1) := by decide +kernel
theorem dX9_tryMove_39 : decode cX9_tryMove 39 = .ok (.istore 4, 2) := by decide +kernel
theorem dX9_tryMove_41 : decode cX9_tryMove 41 = .ok (.iload_n 3, 1) := by decide +kernel
theorem dX9_tryMove_42 : decode cX9_tryMove 42 = .ok (.iload_n 3, 1) := by decide +kernel
theorem dX9_tryMove_43 : decode cX9_tryMove 43 = .ok (.imul, 1) := by decide +kernel
theorem dX9_tryMove_44 : decode cX9_tryMove 44 = .ok (.iload 4, 2) := by decide +kernel
theorem dX9_tryMove_46 : decode cX9_tryMove 46 = .ok (.iload 4, 2) := by decide +kernel
theorem dX9_tryMove_48 : decode cX9_tryMove 48 = .ok (.imul, 1) := by decide +kernel
theorem dX9_tryMove_49 : decode cX9_tryMove 49 = .ok (.iadd, 1) := by decide +kernel
theorem dX9_tryMove_50 : decode cX9_tryMove 50 = .ok (.aload_n 0, 1) := by decide +kernel
theorem dX9_tryMove_51 : decode cX9_tryMove 51 = .ok (.getfield 50, 3) := by decide +kernel
theorem dX9_tryMove_54 : decode cX9_tryMove 54 = .ok (.getfield 81, 3) := by decide +kernel
theorem dX9_tryMove_57 : decode cX9_tryMove 57 = .ok (.iload_n 1, 1) := by decide +kernel
theorem dX9_tryMove_58 : decode cX9_tryMove 58 = .ok (.iaload, 1) := by decide +kernel
theorem dX9_tryMove_59 : decode cX9_tryMove 59 = .ok (.imul, 1) := by decide +kernel
theorem dX9_tryMove_60 : decode cX9_tryMove 60 = .ok (.istore 5, 2) := by decide +kernel
theorem dX9_tryMove_62 : decode cX9_tryMove 62 = .ok (.aload_n 0, 1) := by decide +kernel
theorem dX9_tryMove_63 : decode cX9_tryMove 63 = .ok (.getfield 31, 3) := by decide +kernel
theorem dX9_tryMove_66 : decode cX9_tryMove 66 = .ok (.iconst (-1), 1) := by decide +kernel
theorem dX9_tryMove_67 : decode cX9_tryMove 67 = .ok (.if_icmp .eq 13, 3) := by decide +kernel
theorem dX9_tryMove_70 : decode cX9_tryMove 70 = .ok (.iload 5, 2) := by decide +kernel
theorem dX9_tryMove_72 : decode cX9_tryMove 72 = .ok (.aload_n 0, 1) := by decide +kernel
theorem dX9_tryMove_73 : decode cX9_tryMove 73 = .ok (.getfield 31, 3) := by decide +kernel
theorem dX9_tryMove_76 : decode cX9_tryMove 76 = .ok (.if_icmp .lt 4, 3) := by decide +kernel
theorem dX9_tryMove_79 : decode cX9_tryMove 79 = .ok (.return_, 1) := by decide +kernel
theorem dX9_tryMove_80 : decode cX9_tryMove 80 = .ok (.aload_n 0, 1) := by decide +kernel
theorem dX9_tryMove_81 : decode cX9_tryMove 81 = .ok (.iload_n 1, 1) := by decide +kernel
theorem dX9_tryMove_82 : decode cX9_tryMove 82 = .ok (.aload_n 0, 1) := by decide +kernel
theorem dX9_tryMove_83 : decode cX9_tryMove 83 = .ok (.getfield 50, 3) := by decide +kernel
theorem dX9_tryMove_86 : decode cX9_tryMove 86 = .ok (.getfield 75, 3) := by decide +kernel
theorem dX9_tryMove_89 : decode cX9_tryMove 89 = .ok (.iload_n 2, 1) := by decide +kernel
theorem dX9_tryMove_90 : decode cX9_tryMove 90 = .ok (.iaload, 1) := by decide +kernel
theorem dX9_tryMove_91 : decode cX9_tryMove 91 = .ok (.aload_n 0, 1) := by decide +kernel
theorem dX9_tryMove_92 : decode cX9_tryMove 92 = .ok (.getfield 50, 3) := by decide +kernel
theorem dX9_tryMove_95 : decode cX9_tryMove 95 = .ok (.getfield 78, 3) := by decide +kernel
theorem dX9_tryMove_98 : decode cX9_tryMove 98 = .ok (.iload_n 2, 1) := by decide +kernel
theorem dX9_tryMove_99 : decode cX9_tryMove 99 = .ok (.iaload, 1) := by decide +kernel
theorem dX9_tryMove_100 : decode cX9_tryMove 100 = .ok (.aload_n 0, 1) := by decide +kernel
theorem dX9_tryMove_101 : decode cX9_tryMove 101 = .ok (.getfield 15, 3) := by decide +kernel
theorem dX9_tryMove_104 : decode cX9_tryMove 104 = .ok (.invokevirtual 64, 3) := by decide +kernel
theorem dX9_tryMove_107 : decode cX9_tryMove 107 = .ok (.aload_n 0, 1) := by decide +kernel
theorem dX9_tryMove_108 : decode cX9_tryMove 108 = .ok (.aload_n 0, 1) := by decide +kernel
theorem dX9_tryMove_109 : decode cX9_tryMove 109 = .ok (.getfield 50, 3) := by decide +kernel
theorem dX9_tryMove_112 : decode cX9_tryMove 112 = .ok (.getfield 81, 3) := by decide +kernel
theorem dX9_tryMove_115 : decode cX9_tryMove 115 = .ok (.iload_n 1, 1) := by decide +kernel
theorem dX9_tryMove_116 : decode cX9_tryMove 116 = .ok (.iaload, 1) := by decide +kernel
theorem dX9_tryMove_117 : decode cX9_tryMove 117 = .ok (.invokevirtual 84, 3) := by decide +kernel
theorem dX9_tryMove_120 : decode cX9_tryMove 120 = .ok (.ifCond .eq 19, 3) := by decide +kernel
theorem dX9_tryMove_123 : decode cX9_tryMove 123 = .ok (.aload_n 0, 1) := by decide +kernel
theorem dX9_tryMove_124 : decode cX9_tryMove 124 = .ok (.iload_n 1, 1) := by decide +kernel
theorem dX9_tryMove_125 : decode cX9_tryMove 125 = .ok (.putfield 24, 3) := by decide +kernel
theorem dX9_tryMove_128 : decode cX9_tryMove 128 = .ok (.aload_n 0, 1) := by decide +kernel
theorem dX9_tryMove_129 : decode cX9_tryMove 129 = .ok (.iload_n 2, 1) := by decide +kernel
theorem dX9_tryMove_130 : decode cX9_tryMove 130 = .ok (.putfield 28, 3) := by decide +kernel
theorem dX9_tryMove_133 : decode cX9_tryMove 133 = .ok (.aload_n 0, 1) := by decide +kernel
theorem dX9_tryMove_134 : decode cX9_tryMove 134 = .ok (.iload 5, 2) := by decide +kernel
theorem dX9_tryMove_136 : decode cX9_tryMove 136 = .ok (.putfield 31, 3) := by decide +kernel
theorem dX9_tryMove_139 : decode cX9_tryMove 139 = .ok (.return_, 1) := by decide +kernel
theorem dX9_fillWays_0 : decode cX9_fillWays 0 = .ok (.iconst 0, 1) := by decide +kernel
theorem dX9_fillWays_1 : decode cX9_fillWays 1 = .ok (.istore 5, 2) := by decide +kernel
theorem dX9_fillWays_3 : decode cX9_fillWays 3 = .ok (.iload 5, 2) := by decide +kernel
theorem dX9_fillWays_5 : decode cX9_fillWays 5 = .ok (.aload_n 0, 1) := by decide +kernel
theorem dX9_fillWays_6 : decode cX9_fillWays 6 = .ok (.getfield 50, 3) := by decide +kernel
theorem dX9_fillWays_9 : decode cX9_fillWays 9 = .ok (.getfield 68, 3) := by decide +kernel
theorem dX9_fillWays_12 : decode cX9_fillWays 12 = .ok (.if_icmp .ge 23, 3) := by decide +kernel
theorem dX9_fillWays_15 : decode cX9_fillWays 15 = .ok (.aload 4, 2) := by decide +kernel
theorem dX9_fillWays_17 : decode cX9_fillWays 17 = .ok (.iload 5, 2) := by decide +kernel
theorem dX9_fillWays_19 : decode cX9_fillWays 19 = .ok (.aload_n 0, 1) := by decide +kernel
theorem dX9_fillWays_20 : decode cX9_fillWays 20 = .ok (.iload_n 1, 1) := by decide +kernel
theorem dX9_fillWays_21 : decode cX9_fillWays 21 = .ok (.iload_n 2, 1) := by decide +kernel
theorem dX9_fillWays_22 : decode cX9_fillWays 22 = .ok (.iload_n 3, 1) := by decide +kernel
theorem dX9_fillWays_23 : decode cX9_fillWays 23 = .ok (.iload 5, 2) := by decide +kernel
theorem dX9_fillWays_25 : decode cX9_fillWays 25 = .ok (.invokevirtual 88, 3) := by decide +kernel
theorem dX9_fillWays_28 : decode cX9_fillWays 28 = .ok (.iastore, 1) := by decide +kernel
theorem dX9_fillWays_29 : decode cX9_fillWays 29 = .ok (.iinc 5 1, 3) := by decide +kernel
theorem dX9_fillWays_32 : decode cX9_fillWays 32 = .ok (.goto (-29), 3) := by decide +kernel
theorem dX9_fillWays_35 : decode cX9_fillWays 35 = .ok (.return_, 1) := by decide +kernel
theorem dX9_wayFrom_0 : decode cX9_wayFrom 0 = .ok (.aload_n 0, 1) := by decide +kernel
theorem dX9_wayFrom_1 : decode cX9_wayFrom 1 = .ok (.getfield 50, 3) := by decide +kernel
theorem dX9_wayFrom_4 : decode cX9_wayFrom 4 = .ok (.iload_n 1, 1) := by decide +kernel
theorem dX9_wayFrom_5 : decode cX9_wayFrom 5 = .ok (.aload_n 0, 1) := by decide +kernel
theorem dX9_wayFrom_6 : decode cX9_wayFrom 6 = .ok (.getfield 50, 3) := by decide +kernel
theorem dX9_wayFrom_9 : decode cX9_wayFrom 9 = .ok (.getfield 75, 3) := by decide +kernel
theorem dX9_wayFrom_12 : decode cX9_wayFrom 12 = .ok (.iload 4, 2) := by decide +kernel
theorem dX9_wayFrom_14 : decode cX9_wayFrom 14 = .ok (.iaload, 1) := by decide +kernel
theorem dX9_wayFrom_15 : decode cX9_wayFrom 15 = .ok (.iload_n 2, 1) := by decide +kernel
theorem dX9_wayFrom_16 : decode cX9_wayFrom 16 = .ok (.isub, 1) := by decide +kernel
theorem dX9_wayFrom_17 : decode cX9_wayFrom 17 = .ok (.invokestatic 92, 3) := by decide +kernel
theorem dX9_wayFrom_20 : decode cX9_wayFrom 20 = .ok (.aload_n 0, 1) := by decide +kernel
theorem dX9_wayFrom_21 : decode cX9_wayFrom 21 = .ok (.getfield 50, 3) := by decide +kernel
theorem dX9_wayFrom_24 : decode cX9_wayFrom 24 = .ok (.getfield 78, 3) := by decide +kernel
theorem dX9_wayFrom_27 : decode cX9_wayFrom 27 = .ok (.iload 4, 2) := by decide +kernel
theorem dX9_wayFrom_29 : decode cX9_wayFrom 29 = .ok (.iaload, 1) := by decide +kernel
theorem dX9_wayFrom_30 : decode cX9_wayFrom 30 = .ok (.iload_n 3, 1) := by decide +kernel
theorem dX9_wayFrom_31 : decode cX9_wayFrom 31 = .ok (.isub, 1) := by decide +kernel
theorem dX9_wayFrom_32 : decode cX9_wayFrom 32 = .ok (.invokestatic 92, 3) := by decide +kernel
theorem dX9_wayFrom_35 : decode cX9_wayFrom 35 = .ok (.invokevirtual 98, 3) := by decide +kernel
theorem dX9_wayFrom_38 : decode cX9_wayFrom 38 = .ok (.ireturn, 1) := by decide +kernel
theorem dX9_isPeaceBehind_0 : decode cX9_isPeaceBehind 0 = .ok (.iconst 0, 1) := by decide +kernel
theorem dX9_isPeaceBehind_1 : decode cX9_isPeaceBehind 1 = .ok (.istore_n 2, 1) := by decide +kernel
theorem dX9_isPeaceBehind_2 : decode cX9_isPeaceBehind 2 = .ok (.iload_n 2, 1) := by decide +kernel
theorem dX9_isPeaceBehind_3 : decode cX9_isPeaceBehind 3 = .ok (.aload_n 0, 1) := by decide +kernel
theorem dX9_isPeaceBehind_4 : decode cX9_isPeaceBehind 4 = .ok (.getfield 50, 3) := by decide +kernel
theorem dX9_isPeaceBehind_7 : decode cX9_isPeaceBehind 7 = .ok (.getfield 68, 3) := by decide +kernel
theorem dX9_isPeaceBehind_10 : decode cX9_isPeaceBehind 10 = .ok (.if_icmp .ge 80, 3) := by decide +kernel
theorem dX9_isPeaceBehind_13 : decode cX9_isPeaceBehind 13 = .ok (.iconst 1, 1) := by decide +kernel
theorem dX9_isPeaceBehind_14 : decode cX9_isPeaceBehind 14 = .ok (.istore_n 3, 1) := by decide +kernel
theorem dX9_isPeaceBehind_15 : decode cX9_isPeaceBehind 15 = .ok (.iconst 0, 1) := by decide +kernel
theorem dX9_isPeaceBehind_16 : decode cX9_isPeaceBehind 16 = .ok (.istore 4, 2) := by decide +kernel
theorem dX9_isPeaceBehind_18 : decode cX9_isPeaceBehind 18 = .ok (.iload 4, 2) := by decide +kernel
theorem dX9_isPeaceBehind_20 : decode cX9_isPeaceBehind 20 = .ok (.aload_n 0, 1) := by decide +kernel
theorem dX9_isPeaceBehind_21 : decode cX9_isPeaceBehind 21 = .ok (.getfield 50, 3) := by decide +kernel
theorem dX9_isPeaceBehind_24 : decode cX9_isPeaceBehind 24 = .ok (.getfield 68, 3) := by decide +kernel
theorem dX9_isPeaceBehind_27 : decode cX9_isPeaceBehind 27 = .ok (.if_icmp .ge 51, 3) := by decide +kernel
theorem dX9_isPeaceBehind_30 : decode cX9_isPeaceBehind 30 = .ok (.iload_n 3, 1) := by decide +kernel
theorem dX9_isPeaceBehind_31 : decode cX9_isPeaceBehind 31 = .ok (.ifCond .eq 47, 3) := by decide +kernel
theorem dX9_isPeaceBehind_34 : decode cX9_isPeaceBehind 34 = .ok (.iload 4, 2) := by decide +kernel
theorem dX9_isPeaceBehind_36 : decode cX9_isPeaceBehind 36 = .ok (.iload_n 2, 1) := by decide +kernel
theorem dX9_isPeaceBehind_37 : decode cX9_isPeaceBehind 37 = .ok (.if_icmp .eq 29, 3) := by decide +kernel
theorem dX9_isPeaceBehind_40 : decode cX9_isPeaceBehind 40 = .ok (.aload_n 0, 1) := by decide +kernel
theorem dX9_isPeaceBehind_41 : decode cX9_isPeaceBehind 41 = .ok (.getfield 50, 3) := by decide +kernel
theorem dX9_isPeaceBehind_44 : decode cX9_isPeaceBehind 44 = .ok (.aload_n 0, 1) := by decide +kernel
theorem dX9_isPeaceBehind_45 : decode cX9_isPeaceBehind 45 = .ok (.iload 4, 2) := by decide +kernel
theorem dX9_isPeaceBehind_47 : decode cX9_isPeaceBehind 47 = .ok (.iload_n 2, 1) := by decide +kernel
theorem dX9_isPeaceBehind_48 : decode cX9_isPeaceBehind 48 = .ok (.iload_n 1, 1) := by decide +kernel
theorem dX9_isPeaceBehind_49 : decode cX9_isPeaceBehind 49 = .ok (.invokevirtual 102, 3) := by decide +kernel
theorem dX9_isPeaceBehind_52 : decode cX9_isPeaceBehind 52 = .ok (.aload_n 0, 1) := by decide +kernel
theorem dX9_isPeaceBehind_53 : decode cX9_isPeaceBehind 53 = .ok (.iload_n 2, 1) := by decide +kernel
theorem dX9_isPeaceBehind_54 : decode cX9_isPeaceBehind 54 = .ok (.iload 4, 2) := by decide +kernel
theorem dX9_isPeaceBehind_56 : decode cX9_isPeaceBehind 56 = .ok (.iload_n 1, 1) := by decide +kernel
theorem dX9_isPeaceBehind_57 : decode cX9_isPeaceBehind 57 = .ok (.invokevirtual 102, 3) := by decide +kernel
theorem dX9_isPeaceBehind_60 : decode cX9_isPeaceBehind 60 = .ok (.invokevirtual 105, 3) := by decide +kernel
theorem dX9_isPeaceBehind_63 : decode cX9_isPeaceBehind 63 = .ok (.ifCond .ne 7, 3) := by decide +kernel
theorem dX9_isPeaceBehind_66 : decode cX9_isPeaceBehind 66 = .ok (.iconst 1, 1) := by decide +kernel
theorem dX9_isPeaceBehind_67 : decode cX9_isPeaceBehind 67 = .ok (.goto 4, 3) := by decide +kernel
theorem dX9_isPeaceBehind_70 : decode cX9_isPeaceBehind 70 = .ok (.iconst 0, 1) := by decide +kernel
theorem dX9_isPeaceBehind_71 : decode cX9_isPeaceBehind 71 = .ok (.istore_n 3, 1) := by decide +kernel
theorem dX9_isPeaceBehind_72 : decode cX9_isPeaceBehind 72 = .ok (.iinc 4 1, 3) := by decide +kernel
theorem dX9_isPeaceBehind_75 : decode cX9_isPeaceBehind 75 = .ok (.goto (-57), 3) := by decide +kernel
theorem dX9_isPeaceBehind_78 : decode cX9_isPeaceBehind 78 = .ok (.iload_n 3, 1) := by decide +kernel
theorem dX9_isPeaceBehind_79 : decode cX9_isPeaceBehind 79 = .ok (.ifCond .eq 5, 3) := by decide +kernel
theorem dX9_isPeaceBehind_82 : decode cX9_isPeaceBehind 82 = .ok (.iconst 1, 1) := by decide +kernel
theorem dX9_isPeaceBehind_83 : decode cX9_isPeaceBehind 83 = .ok (.ireturn, 1) := by decide +kernel
theorem dX9_isPeaceBehind_84 : decode cX9_isPeaceBehind 84 = .ok (.iinc 2 1, 3) := by decide +kernel
theorem dX9_isPeaceBehind_87 : decode cX9_isPeaceBehind 87 = .ok (.goto (-85), 3) := by decide +kernel
theorem dX9_isPeaceBehind_90 : decode cX9_isPeaceBehind 90 = .ok (.iconst 0, 1) := by decide +kernel
theorem dX9_isPeaceBehind_91 : decode cX9_isPeaceBehind 91 = .ok (.ireturn, 1) := by decide +kernel
theorem dX9_forBehind_0 : decode cX9_forBehind 0 = .ok (.aload_n 0, 1) := by decide +kernel
theorem dX9_forBehind_1 : decode cX9_forBehind 1 = .ok (.getfield 40, 3) := by decide +kernel
theorem dX9_forBehind_4 : decode cX9_forBehind 4 = .ok (.iload_n 1, 1) := by decide +kernel
theorem dX9_forBehind_5 : decode cX9_forBehind 5 = .ok (.iload_n 2, 1) := by decide +kernel
theorem dX9_forBehind_6 : decode cX9_forBehind 6 = .ok (.invokevirtual 109, 3) := by decide +kernel
theorem dX9_forBehind_9 : decode cX9_forBehind 9 = .ok (.istore 4, 2) := by decide +kernel
theorem dX9_forBehind_11 : decode cX9_forBehind 11 = .ok (.aload_n 0, 1) := by decide +kernel
theorem dX9_forBehind_12 : decode cX9_forBehind 12 = .ok (.getfield 9, 3) := by decide +kernel
theorem dX9_forBehind_15 : decode cX9_forBehind 15 = .ok (.iload_n 1, 1) := by decide +kernel
theorem dX9_forBehind_16 : decode cX9_forBehind 16 = .ok (.iaload, 1) := by decide +kernel
theorem dX9_forBehind_17 : decode cX9_forBehind 17 = .ok (.aload_n 0, 1) := by decide +kernel
theorem dX9_forBehind_18 : decode cX9_forBehind 18 = .ok (.getfield 9, 3) := by decide +kernel
theorem dX9_forBehind_21 : decode cX9_forBehind 21 = .ok (.iload_n 2, 1) := by decide +kernel
theorem dX9_forBehind_22 : decode cX9_forBehind 22 = .ok (.iaload, 1) := by decide +kernel
theorem dX9_forBehind_23 : decode cX9_forBehind 23 = .ok (.if_icmp .ge 9, 3) := by decide +kernel
theorem dX9_forBehind_26 : decode cX9_forBehind 26 = .ok (.iload 4, 2) := by decide +kernel
theorem dX9_forBehind_28 : decode cX9_forBehind 28 = .ok (.iload_n 3, 1) := by decide +kernel
theorem dX9_forBehind_29 : decode cX9_forBehind 29 = .ok (.isub, 1) := by decide +kernel
theorem dX9_forBehind_30 : decode cX9_forBehind 30 = .ok (.istore 4, 2) := by decide +kernel
theorem dX9_forBehind_32 : decode cX9_forBehind 32 = .ok (.aload_n 0, 1) := by decide +kernel
theorem dX9_forBehind_33 : decode cX9_forBehind 33 = .ok (.getfield 15, 3) := by decide +kernel
theorem dX9_forBehind_36 : decode cX9_forBehind 36 = .ok (.iload_n 1, 1) := by decide +kernel
theorem dX9_forBehind_37 : decode cX9_forBehind 37 = .ok (.iaload, 1) := by decide +kernel
theorem dX9_forBehind_38 : decode cX9_forBehind 38 = .ok (.aload_n 0, 1) := by decide +kernel
theorem dX9_forBehind_39 : decode cX9_forBehind 39 = .ok (.getfield 15, 3) := by decide +kernel
theorem dX9_forBehind_42 : decode cX9_forBehind 42 = .ok (.iload_n 2, 1) := by decide +kernel
theorem dX9_forBehind_43 : decode cX9_forBehind 43 = .ok (.iaload, 1) := by decide +kernel
theorem dX9_forBehind_44 : decode cX9_forBehind 44 = .ok (.if_icmp .ge 9, 3) := by decide +kernel
theorem dX9_forBehind_47 : decode cX9_forBehind 47 = .ok (.iload 4, 2) := by decide +kernel
theorem dX9_forBehind_49 : decode cX9_forBehind 49 = .ok (.iload_n 3, 1) := by decide +kernel
theorem dX9_forBehind_50 : decode cX9_forBehind 50 = .ok (.iadd, 1) := by decide +kernel
theorem dX9_forBehind_51 : decode cX9_forBehind 51 = .ok (.istore 4, 2) := by decide +kernel
theorem dX9_forBehind_53 : decode cX9_forBehind 53 = .ok (.iload 4, 2) := by decide +kernel
theorem dX9_forBehind_55 : decode cX9_forBehind 55 = .ok (.ireturn, 1) := by decide +kernel
theorem dX9_fewestJoined_0 : decode cX9_fewestJoined 0 = .ok (.bipush 9, 2) := by decide +kernel
theorem dX9_fewestJoined_2 : decode cX9_fewestJoined 2 = .ok (.aload_n 0, 1) := by decide +kernel
theorem dX9_fewestJoined_3 : decode cX9_fewestJoined 3 = .ok (.getfield 50, 3) := by decide +kernel
theorem dX9_fewestJoined_6 : decode cX9_fewestJoined 6 = .ok (.getfield 55, 3) := by decide +kernel
theorem dX9_fewestJoined_9 : decode cX9_fewestJoined 9 = .ok (.invokestatic 113, 3) := by decide +kernel
theorem dX9_fewestJoined_12 : decode cX9_fewestJoined 12 = .ok (.istore_n 2, 1) := by decide +kernel
theorem dX9_fewestJoined_13 : decode cX9_fewestJoined 13 = .ok (.iconst 0, 1) := by decide +kernel
theorem dX9_fewestJoined_14 : decode cX9_fewestJoined 14 = .ok (.istore_n 3, 1) := by decide +kernel
theorem dX9_fewestJoined_15 : decode cX9_fewestJoined 15 = .ok (.iload_n 3, 1) := by decide +kernel
theorem dX9_fewestJoined_16 : decode cX9_fewestJoined 16 = .ok (.iload_n 2, 1) := by decide +kernel
theorem dX9_fewestJoined_17 : decode cX9_fewestJoined 17 = .ok (.if_icmp .ge 15, 3) := by decide +kernel
theorem dX9_fewestJoined_20 : decode cX9_fewestJoined 20 = .ok (.aload_n 0, 1) := by decide +kernel
theorem dX9_fewestJoined_21 : decode cX9_fewestJoined 21 = .ok (.iload_n 3, 1) := by decide +kernel
theorem dX9_fewestJoined_22 : decode cX9_fewestJoined 22 = .ok (.iload_n 1, 1) := by decide +kernel
theorem dX9_fewestJoined_23 : decode cX9_fewestJoined 23 = .ok (.invokevirtual 116, 3) := by decide +kernel
theorem dX9_fewestJoined_26 : decode cX9_fewestJoined 26 = .ok (.iinc 3 1, 3) := by decide +kernel
theorem dX9_fewestJoined_29 : decode cX9_fewestJoined 29 = .ok (.goto (-14), 3) := by decide +kernel
theorem dX9_fewestJoined_32 : decode cX9_fewestJoined 32 = .ok (.iconst 0, 1) := by decide +kernel
theorem dX9_fewestJoined_33 : decode cX9_fewestJoined 33 = .ok (.istore_n 3, 1) := by decide +kernel
theorem dX9_fewestJoined_34 : decode cX9_fewestJoined 34 = .ok (.iload_n 3, 1) := by decide +kernel
theorem dX9_fewestJoined_35 : decode cX9_fewestJoined 35 = .ok (.iload_n 2, 1) := by decide +kernel
theorem dX9_fewestJoined_36 : decode cX9_fewestJoined 36 = .ok (.if_icmp .gt 49, 3) := by decide +kernel
theorem dX9_fewestJoined_39 : decode cX9_fewestJoined 39 = .ok (.iconst 0, 1) := by decide +kernel
theorem dX9_fewestJoined_40 : decode cX9_fewestJoined 40 = .ok (.istore 4, 2) := by decide +kernel
theorem dX9_fewestJoined_42 : decode cX9_fewestJoined 42 = .ok (.iload 4, 2) := by decide +kernel
theorem dX9_fewestJoined_44 : decode cX9_fewestJoined 44 = .ok (.iconst 1, 1) := by decide +kernel
theorem dX9_fewestJoined_45 : decode cX9_fewestJoined 45 = .ok (.iload_n 2, 1) := by decide +kernel
theorem dX9_fewestJoined_46 : decode cX9_fewestJoined 46 = .ok (.ishl, 1) := by decide +kernel
theorem dX9_fewestJoined_47 : decode cX9_fewestJoined 47 = .ok (.if_icmp .ge 32, 3) := by decide +kernel
theorem dX9_fewestJoined_50 : decode cX9_fewestJoined 50 = .ok (.iload 4, 2) := by decide +kernel
theorem dX9_fewestJoined_52 : decode cX9_fewestJoined 52 = .ok (.invokestatic 119, 3) := by decide +kernel
theorem dX9_fewestJoined_55 : decode cX9_fewestJoined 55 = .ok (.iload_n 3, 1) := by decide +kernel
theorem dX9_fewestJoined_56 : decode cX9_fewestJoined 56 = .ok (.if_icmp .ne 17, 3) := by decide +kernel
theorem dX9_fewestJoined_59 : decode cX9_fewestJoined 59 = .ok (.aload_n 0, 1) := by decide +kernel
theorem dX9_fewestJoined_60 : decode cX9_fewestJoined 60 = .ok (.iload_n 1, 1) := by decide +kernel
theorem dX9_fewestJoined_61 : decode cX9_fewestJoined 61 = .ok (.iload 4, 2) := by decide +kernel
theorem dX9_fewestJoined_63 : decode cX9_fewestJoined 63 = .ok (.iload_n 2, 1) := by decide +kernel
theorem dX9_fewestJoined_64 : decode cX9_fewestJoined 64 = .ok (.invokevirtual 124, 3) := by decide +kernel
theorem dX9_fewestJoined_67 : decode cX9_fewestJoined 67 = .ok (.ifCond .eq 6, 3) := by decide +kernel
theorem dX9_fewestJoined_70 : decode cX9_fewestJoined 70 = .ok (.iload 4, 2) := by decide +kernel
theorem dX9_fewestJoined_72 : decode cX9_fewestJoined 72 = .ok (.ireturn, 1) := by decide +kernel
theorem dX9_fewestJoined_73 : decode cX9_fewestJoined 73 = .ok (.iinc 4 1, 3) := by decide +kernel
theorem dX9_fewestJoined_76 : decode cX9_fewestJoined 76 = .ok (.goto (-34), 3) := by decide +kernel
theorem dX9_fewestJoined_79 : decode cX9_fewestJoined 79 = .ok (.iinc 3 1, 3) := by decide +kernel
theorem dX9_fewestJoined_82 : decode cX9_fewestJoined 82 = .ok (.goto (-48), 3) := by decide +kernel
theorem dX9_fewestJoined_85 : decode cX9_fewestJoined 85 = .ok (.iconst (-1), 1) := by decide +kernel
theorem dX9_fewestJoined_86 : decode cX9_fewestJoined 86 = .ok (.ireturn, 1) := by decide +kernel
theorem dX9_fillJoining_0 : decode cX9_fillJoining 0 = .ok (.aload_n 0, 1) := by decide +kernel
theorem dX9_fillJoining_1 : decode cX9_fillJoining 1 = .ok (.iload_n 1, 1) := by decide +kernel
theorem dX9_fillJoining_2 : decode cX9_fillJoining 2 = .ok (.aload_n 0, 1) := by decide +kernel
theorem dX9_fillJoining_3 : decode cX9_fillJoining 3 = .ok (.getfield 50, 3) := by decide +kernel
theorem dX9_fillJoining_6 : decode cX9_fillJoining 6 = .ok (.getfield 58, 3) := by decide +kernel
theorem dX9_fillJoining_9 : decode cX9_fillJoining 9 = .ok (.iload_n 1, 1) := by decide +kernel
theorem dX9_fillJoining_10 : decode cX9_fillJoining 10 = .ok (.iaload, 1) := by decide +kernel
theorem dX9_fillJoining_11 : decode cX9_fillJoining 11 = .ok (.aload_n 0, 1) := by decide +kernel
theorem dX9_fillJoining_12 : decode cX9_fillJoining 12 = .ok (.getfield 50, 3) := by decide +kernel
theorem dX9_fillJoining_15 : decode cX9_fillJoining 15 = .ok (.getfield 61, 3) := by decide +kernel
theorem dX9_fillJoining_18 : decode cX9_fillJoining 18 = .ok (.iload_n 1, 1) := by decide +kernel
theorem dX9_fillJoining_19 : decode cX9_fillJoining 19 = .ok (.iaload, 1) := by decide +kernel
theorem dX9_fillJoining_20 : decode cX9_fillJoining 20 = .ok (.aload_n 0, 1) := by decide +kernel
theorem dX9_fillJoining_21 : decode cX9_fillJoining 21 = .ok (.getfield 9, 3) := by decide +kernel
theorem dX9_fillJoining_24 : decode cX9_fillJoining 24 = .ok (.invokevirtual 64, 3) := by decide +kernel
theorem dX9_fillJoining_27 : decode cX9_fillJoining 27 = .ok (.aload_n 0, 1) := by decide +kernel
theorem dX9_fillJoining_28 : decode cX9_fillJoining 28 = .ok (.iload_n 1, 1) := by decide +kernel
theorem dX9_fillJoining_29 : decode cX9_fillJoining 29 = .ok (.aload_n 0, 1) := by decide +kernel
theorem dX9_fillJoining_30 : decode cX9_fillJoining 30 = .ok (.getfield 50, 3) := by decide +kernel
theorem dX9_fillJoining_33 : decode cX9_fillJoining 33 = .ok (.getfield 75, 3) := by decide +kernel
theorem dX9_fillJoining_36 : decode cX9_fillJoining 36 = .ok (.iload_n 2, 1) := by decide +kernel
theorem dX9_fillJoining_37 : decode cX9_fillJoining 37 = .ok (.iaload, 1) := by decide +kernel
theorem dX9_fillJoining_38 : decode cX9_fillJoining 38 = .ok (.aload_n 0, 1) := by decide +kernel
theorem dX9_fillJoining_39 : decode cX9_fillJoining 39 = .ok (.getfield 50, 3) := by decide +kernel
theorem dX9_fillJoining_42 : decode cX9_fillJoining 42 = .ok (.getfield 78, 3) := by decide +kernel
theorem dX9_fillJoining_45 : decode cX9_fillJoining 45 = .ok (.iload_n 2, 1) := by decide +kernel
theorem dX9_fillJoining_46 : decode cX9_fillJoining 46 = .ok (.iaload, 1) := by decide +kernel
theorem dX9_fillJoining_47 : decode cX9_fillJoining 47 = .ok (.aload_n 0, 1) := by decide +kernel
theorem dX9_fillJoining_48 : decode cX9_fillJoining 48 = .ok (.getfield 15, 3) := by decide +kernel
theorem dX9_fillJoining_51 : decode cX9_fillJoining 51 = .ok (.invokevirtual 64, 3) := by decide +kernel
theorem dX9_fillJoining_54 : decode cX9_fillJoining 54 = .ok (.iconst 0, 1) := by decide +kernel
theorem dX9_fillJoining_55 : decode cX9_fillJoining 55 = .ok (.istore_n 3, 1) := by decide +kernel
theorem dX9_fillJoining_56 : decode cX9_fillJoining 56 = .ok (.iload_n 3, 1) := by decide +kernel
theorem dX9_fillJoining_57 : decode cX9_fillJoining 57 = .ok (.aload_n 0, 1) := by decide +kernel
theorem dX9_fillJoining_58 : decode cX9_fillJoining 58 = .ok (.getfield 50, 3) := by decide +kernel
theorem dX9_fillJoining_61 : decode cX9_fillJoining 61 = .ok (.getfield 68, 3) := by decide +kernel
theorem dX9_fillJoining_64 : decode cX9_fillJoining 64 = .ok (.if_icmp .ge 124, 3) := by decide +kernel
theorem dX9_fillJoining_67 : decode cX9_fillJoining 67 = .ok (.aload_n 0, 1) := by decide +kernel
theorem dX9_fillJoining_68 : decode cX9_fillJoining 68 = .ok (.getfield 9, 3) := by decide +kernel
theorem dX9_fillJoining_71 : decode cX9_fillJoining 71 = .ok (.iload_n 2, 1) := by decide +kernel
theorem dX9_fillJoining_72 : decode cX9_fillJoining 72 = .ok (.iaload, 1) := by decide +kernel
theorem dX9_fillJoining_73 : decode cX9_fillJoining 73 = .ok (.aload_n 0, 1) := by decide +kernel
theorem dX9_fillJoining_74 : decode cX9_fillJoining 74 = .ok (.getfield 9, 3) := by decide +kernel
theorem dX9_fillJoining_77 : decode cX9_fillJoining 77 = .ok (.iload_n 3, 1) := by decide +kernel
theorem dX9_fillJoining_78 : decode cX9_fillJoining 78 = .ok (.iaload, 1) := by decide +kernel
theorem dX9_fillJoining_79 : decode cX9_fillJoining 79 = .ok (.if_icmp .ge 15, 3) := by decide +kernel
theorem dX9_fillJoining_82 : decode cX9_fillJoining 82 = .ok (.aload_n 0, 1) := by decide +kernel
theorem dX9_fillJoining_83 : decode cX9_fillJoining 83 = .ok (.getfield 50, 3) := by decide +kernel
theorem dX9_fillJoining_86 : decode cX9_fillJoining 86 = .ok (.getfield 81, 3) := by decide +kernel
theorem dX9_fillJoining_89 : decode cX9_fillJoining 89 = .ok (.iload_n 1, 1) := by decide +kernel
theorem dX9_fillJoining_90 : decode cX9_fillJoining 90 = .ok (.iaload, 1) := by decide +kernel
theorem dX9_fillJoining_91 : decode cX9_fillJoining 91 = .ok (.goto 4, 3) := by decide +kernel
theorem dX9_fillJoining_94 : decode cX9_fillJoining 94 = .ok (.iconst 0, 1) := by decide +kernel
theorem dX9_fillJoining_95 : decode cX9_fillJoining 95 = .ok (.istore 4, 2) := by decide +kernel
theorem dX9_fillJoining_97 : decode cX9_fillJoining 97 = .ok (.aload_n 0, 1) := by decide +kernel
theorem dX9_fillJoining_98 : decode cX9_fillJoining 98 = .ok (.getfield 15, 3) := by decide +kernel
theorem dX9_fillJoining_101 : decode cX9_fillJoining 101 = .ok (.iload_n 2, 1) := by decide +kernel
theorem dX9_fillJoining_102 : decode cX9_fillJoining 102 = .ok (.iaload, 1) := by decide +kernel
theorem dX9_fillJoining_103 : decode cX9_fillJoining 103 = .ok (.aload_n 0, 1) := by decide +kernel
theorem dX9_fillJoining_104 : decode cX9_fillJoining 104 = .ok (.getfield 15, 3) := by decide +kernel
theorem dX9_fillJoining_107 : decode cX9_fillJoining 107 = .ok (.iload_n 3, 1) := by decide +kernel
theorem dX9_fillJoining_108 : decode cX9_fillJoining 108 = .ok (.iaload, 1) := by decide +kernel
theorem dX9_fillJoining_109 : decode cX9_fillJoining 109 = .ok (.if_icmp .ge 15, 3) := by decide +kernel
theorem dX9_fillJoining_112 : decode cX9_fillJoining 112 = .ok (.aload_n 0, 1) := by decide +kernel
theorem dX9_fillJoining_113 : decode cX9_fillJoining 113 = .ok (.getfield 50, 3) := by decide +kernel
theorem dX9_fillJoining_116 : decode cX9_fillJoining 116 = .ok (.getfield 81, 3) := by decide +kernel
theorem dX9_fillJoining_119 : decode cX9_fillJoining 119 = .ok (.iload_n 1, 1) := by decide +kernel
theorem dX9_fillJoining_120 : decode cX9_fillJoining 120 = .ok (.iaload, 1) := by decide +kernel
theorem dX9_fillJoining_121 : decode cX9_fillJoining 121 = .ok (.goto 4, 3) := by decide +kernel
theorem dX9_fillJoining_124 : decode cX9_fillJoining 124 = .ok (.iconst 0, 1) := by decide +kernel
theorem dX9_fillJoining_125 : decode cX9_fillJoining 125 = .ok (.istore 5, 2) := by decide +kernel
theorem dX9_fillJoining_127 : decode cX9_fillJoining 127 = .ok (.aload_n 0, 1) := by decide +kernel
theorem dX9_fillJoining_128 : decode cX9_fillJoining 128 = .ok (.getfield 18, 3) := by decide +kernel
theorem dX9_fillJoining_131 : decode cX9_fillJoining 131 = .ok (.iload_n 1, 1) := by decide +kernel
theorem dX9_fillJoining_132 : decode cX9_fillJoining 132 = .ok (.bipush 20, 2) := by decide +kernel
theorem dX9_fillJoining_134 : decode cX9_fillJoining 134 = .ok (.imul, 1) := by decide +kernel
theorem dX9_fillJoining_135 : decode cX9_fillJoining 135 = .ok (.iload_n 3, 1) := by decide +kernel
theorem dX9_fillJoining_136 : decode cX9_fillJoining 136 = .ok (.iadd, 1) := by decide +kernel
theorem dX9_fillJoining_137 : decode cX9_fillJoining 137 = .ok (.aload_n 0, 1) := by decide +kernel
theorem dX9_fillJoining_138 : decode cX9_fillJoining 138 = .ok (.getfield 9, 3) := by decide +kernel
theorem dX9_fillJoining_141 : decode cX9_fillJoining 141 = .ok (.iload_n 3, 1) := by decide +kernel
theorem dX9_fillJoining_142 : decode cX9_fillJoining 142 = .ok (.iaload, 1) := by decide +kernel
theorem dX9_fillJoining_143 : decode cX9_fillJoining 143 = .ok (.aload_n 0, 1) := by decide +kernel
theorem dX9_fillJoining_144 : decode cX9_fillJoining 144 = .ok (.getfield 9, 3) := by decide +kernel
theorem dX9_fillJoining_147 : decode cX9_fillJoining 147 = .ok (.iload_n 2, 1) := by decide +kernel
theorem dX9_fillJoining_148 : decode cX9_fillJoining 148 = .ok (.iaload, 1) := by decide +kernel
theorem dX9_fillJoining_149 : decode cX9_fillJoining 149 = .ok (.if_icmp .ge 15, 3) := by decide +kernel
theorem dX9_fillJoining_152 : decode cX9_fillJoining 152 = .ok (.aload_n 0, 1) := by decide +kernel
theorem dX9_fillJoining_153 : decode cX9_fillJoining 153 = .ok (.getfield 50, 3) := by decide +kernel
theorem dX9_fillJoining_156 : decode cX9_fillJoining 156 = .ok (.getfield 81, 3) := by decide +kernel
theorem dX9_fillJoining_159 : decode cX9_fillJoining 159 = .ok (.iload_n 1, 1) := by decide +kernel
theorem dX9_fillJoining_160 : decode cX9_fillJoining 160 = .ok (.iaload, 1) := by decide +kernel
theorem dX9_fillJoining_161 : decode cX9_fillJoining 161 = .ok (.goto 4, 3) := by decide +kernel
theorem dX9_fillJoining_164 : decode cX9_fillJoining 164 = .ok (.iconst 0, 1) := by decide +kernel
theorem dX9_fillJoining_165 : decode cX9_fillJoining 165 = .ok (.iastore, 1) := by decide +kernel
theorem dX9_fillJoining_166 : decode cX9_fillJoining 166 = .ok (.aload_n 0, 1) := by decide +kernel
theorem dX9_fillJoining_167 : decode cX9_fillJoining 167 = .ok (.getfield 21, 3) := by decide +kernel
theorem dX9_fillJoining_170 : decode cX9_fillJoining 170 = .ok (.iload_n 1, 1) := by decide +kernel
theorem dX9_fillJoining_171 : decode cX9_fillJoining 171 = .ok (.bipush 20, 2) := by decide +kernel
theorem dX9_fillJoining_173 : decode cX9_fillJoining 173 = .ok (.imul, 1) := by decide +kernel
theorem dX9_fillJoining_174 : decode cX9_fillJoining 174 = .ok (.iload_n 3, 1) := by decide +kernel
theorem dX9_fillJoining_175 : decode cX9_fillJoining 175 = .ok (.iadd, 1) := by decide +kernel
theorem dX9_fillJoining_176 : decode cX9_fillJoining 176 = .ok (.iload 5, 2) := by decide +kernel
theorem dX9_fillJoining_178 : decode cX9_fillJoining 178 = .ok (.iload 4, 2) := by decide +kernel
theorem dX9_fillJoining_180 : decode cX9_fillJoining 180 = .ok (.isub, 1) := by decide +kernel
theorem dX9_fillJoining_181 : decode cX9_fillJoining 181 = .ok (.iastore, 1) := by decide +kernel
theorem dX9_fillJoining_182 : decode cX9_fillJoining 182 = .ok (.iinc 3 1, 3) := by decide +kernel
theorem dX9_fillJoining_185 : decode cX9_fillJoining 185 = .ok (.goto (-129), 3) := by decide +kernel
theorem dX9_fillJoining_188 : decode cX9_fillJoining 188 = .ok (.return_, 1) := by decide +kernel
theorem dX9_standsJoined_0 : decode cX9_standsJoined 0 = .ok (.iconst 0, 1) := by decide +kernel
theorem dX9_standsJoined_1 : decode cX9_standsJoined 1 = .ok (.istore 4, 2) := by decide +kernel
theorem dX9_standsJoined_3 : decode cX9_standsJoined 3 = .ok (.iload 4, 2) := by decide +kernel
theorem dX9_standsJoined_5 : decode cX9_standsJoined 5 = .ok (.aload_n 0, 1) := by decide +kernel
theorem dX9_standsJoined_6 : decode cX9_standsJoined 6 = .ok (.getfield 50, 3) := by decide +kernel
theorem dX9_standsJoined_9 : decode cX9_standsJoined 9 = .ok (.getfield 68, 3) := by decide +kernel
theorem dX9_standsJoined_12 : decode cX9_standsJoined 12 = .ok (.if_icmp .ge 116, 3) := by decide +kernel
theorem dX9_standsJoined_15 : decode cX9_standsJoined 15 = .ok (.aload_n 0, 1) := by decide +kernel
theorem dX9_standsJoined_16 : decode cX9_standsJoined 16 = .ok (.getfield 40, 3) := by decide +kernel
theorem dX9_standsJoined_19 : decode cX9_standsJoined 19 = .ok (.iload 4, 2) := by decide +kernel
theorem dX9_standsJoined_21 : decode cX9_standsJoined 21 = .ok (.iload_n 1, 1) := by decide +kernel
theorem dX9_standsJoined_22 : decode cX9_standsJoined 22 = .ok (.invokevirtual 109, 3) := by decide +kernel
theorem dX9_standsJoined_25 : decode cX9_standsJoined 25 = .ok (.istore 5, 2) := by decide +kernel
theorem dX9_standsJoined_27 : decode cX9_standsJoined 27 = .ok (.aload_n 0, 1) := by decide +kernel
theorem dX9_standsJoined_28 : decode cX9_standsJoined 28 = .ok (.getfield 40, 3) := by decide +kernel
theorem dX9_standsJoined_31 : decode cX9_standsJoined 31 = .ok (.iload_n 1, 1) := by decide +kernel
theorem dX9_standsJoined_32 : decode cX9_standsJoined 32 = .ok (.iload 4, 2) := by decide +kernel
theorem dX9_standsJoined_34 : decode cX9_standsJoined 34 = .ok (.invokevirtual 109, 3) := by decide +kernel
theorem dX9_standsJoined_37 : decode cX9_standsJoined 37 = .ok (.istore 6, 2) := by decide +kernel
theorem dX9_standsJoined_39 : decode cX9_standsJoined 39 = .ok (.iconst 0, 1) := by decide +kernel
theorem dX9_standsJoined_40 : decode cX9_standsJoined 40 = .ok (.istore 7, 2) := by decide +kernel
theorem dX9_standsJoined_42 : decode cX9_standsJoined 42 = .ok (.iload 7, 2) := by decide +kernel
theorem dX9_standsJoined_44 : decode cX9_standsJoined 44 = .ok (.iload_n 3, 1) := by decide +kernel
theorem dX9_standsJoined_45 : decode cX9_standsJoined 45 = .ok (.if_icmp .ge 55, 3) := by decide +kernel
theorem dX9_standsJoined_48 : decode cX9_standsJoined 48 = .ok (.iload_n 2, 1) := by decide +kernel
theorem dX9_standsJoined_49 : decode cX9_standsJoined 49 = .ok (.iload 7, 2) := by decide +kernel
theorem dX9_standsJoined_51 : decode cX9_standsJoined 51 = .ok (.ishr, 1) := by decide +kernel
theorem dX9_standsJoined_52 : decode cX9_standsJoined 52 = .ok (.iconst 1, 1) := by decide +kernel
theorem dX9_standsJoined_53 : decode cX9_standsJoined 53 = .ok (.iand, 1) := by decide +kernel
theorem dX9_standsJoined_54 : decode cX9_standsJoined 54 = .ok (.iconst 1, 1) := by decide +kernel
theorem dX9_standsJoined_55 : decode cX9_standsJoined 55 = .ok (.if_icmp .ne 39, 3) := by decide +kernel
theorem dX9_standsJoined_58 : decode cX9_standsJoined 58 = .ok (.iload 5, 2) := by decide +kernel
theorem dX9_standsJoined_60 : decode cX9_standsJoined 60 = .ok (.aload_n 0, 1) := by decide +kernel
theorem dX9_standsJoined_61 : decode cX9_standsJoined 61 = .ok (.getfield 18, 3) := by decide +kernel
theorem dX9_standsJoined_64 : decode cX9_standsJoined 64 = .ok (.iload 7, 2) := by decide +kernel
theorem dX9_standsJoined_66 : decode cX9_standsJoined 66 = .ok (.bipush 20, 2) := by decide +kernel
theorem dX9_standsJoined_68 : decode cX9_standsJoined 68 = .ok (.imul, 1) := by decide +kernel
theorem dX9_standsJoined_69 : decode cX9_standsJoined 69 = .ok (.iload 4, 2) := by decide +kernel
theorem dX9_standsJoined_71 : decode cX9_standsJoined 71 = .ok (.iadd, 1) := by decide +kernel
theorem dX9_standsJoined_72 : decode cX9_standsJoined 72 = .ok (.iaload, 1) := by decide +kernel
theorem dX9_standsJoined_73 : decode cX9_standsJoined 73 = .ok (.isub, 1) := by decide +kernel
theorem dX9_standsJoined_74 : decode cX9_standsJoined 74 = .ok (.istore 5, 2) := by decide +kernel
theorem dX9_standsJoined_76 : decode cX9_standsJoined 76 = .ok (.iload 6, 2) := by decide +kernel
theorem dX9_standsJoined_78 : decode cX9_standsJoined 78 = .ok (.aload_n 0, 1) := by decide +kernel
theorem dX9_standsJoined_79 : decode cX9_standsJoined 79 = .ok (.getfield 21, 3) := by decide +kernel
theorem dX9_standsJoined_82 : decode cX9_standsJoined 82 = .ok (.iload 7, 2) := by decide +kernel
theorem dX9_standsJoined_84 : decode cX9_standsJoined 84 = .ok (.bipush 20, 2) := by decide +kernel
theorem dX9_standsJoined_86 : decode cX9_standsJoined 86 = .ok (.imul, 1) := by decide +kernel
theorem dX9_standsJoined_87 : decode cX9_standsJoined 87 = .ok (.iload 4, 2) := by decide +kernel
theorem dX9_standsJoined_89 : decode cX9_standsJoined 89 = .ok (.iadd, 1) := by decide +kernel
theorem dX9_standsJoined_90 : decode cX9_standsJoined 90 = .ok (.iaload, 1) := by decide +kernel
theorem dX9_standsJoined_91 : decode cX9_standsJoined 91 = .ok (.iadd, 1) := by decide +kernel
theorem dX9_standsJoined_92 : decode cX9_standsJoined 92 = .ok (.istore 6, 2) := by decide +kernel
theorem dX9_standsJoined_94 : decode cX9_standsJoined 94 = .ok (.iinc 7 1, 3) := by decide +kernel
theorem dX9_standsJoined_97 : decode cX9_standsJoined 97 = .ok (.goto (-55), 3) := by decide +kernel
theorem dX9_standsJoined_100 : decode cX9_standsJoined 100 = .ok (.iload 4, 2) := by decide +kernel
theorem dX9_standsJoined_102 : decode cX9_standsJoined 102 = .ok (.iload_n 1, 1) := by decide +kernel
theorem dX9_standsJoined_103 : decode cX9_standsJoined 103 = .ok (.if_icmp .eq 19, 3) := by decide +kernel
theorem dX9_standsJoined_106 : decode cX9_standsJoined 106 = .ok (.aload_n 0, 1) := by decide +kernel
theorem dX9_standsJoined_107 : decode cX9_standsJoined 107 = .ok (.getfield 50, 3) := by decide +kernel
theorem dX9_standsJoined_110 : decode cX9_standsJoined 110 = .ok (.iload 5, 2) := by decide +kernel
theorem dX9_standsJoined_112 : decode cX9_standsJoined 112 = .ok (.iload 6, 2) := by decide +kernel
theorem dX9_standsJoined_114 : decode cX9_standsJoined 114 = .ok (.invokevirtual 105, 3) := by decide +kernel
theorem dX9_standsJoined_117 : decode cX9_standsJoined 117 = .ok (.ifCond .eq 5, 3) := by decide +kernel
theorem dX9_standsJoined_120 : decode cX9_standsJoined 120 = .ok (.iconst 0, 1) := by decide +kernel
theorem dX9_standsJoined_121 : decode cX9_standsJoined 121 = .ok (.ireturn, 1) := by decide +kernel
theorem dX9_standsJoined_122 : decode cX9_standsJoined 122 = .ok (.iinc 4 1, 3) := by decide +kernel
theorem dX9_standsJoined_125 : decode cX9_standsJoined 125 = .ok (.goto (-122), 3) := by decide +kernel
theorem dX9_standsJoined_128 : decode cX9_standsJoined 128 = .ok (.iconst 1, 1) := by decide +kernel
theorem dX9_standsJoined_129 : decode cX9_standsJoined 129 = .ok (.ireturn, 1) := by decide +kernel
theorem dX9_verdict_0 : decode cX9_verdict 0 = .ok (.iconst 2, 1) := by decide +kernel
theorem dX9_verdict_1 : decode cX9_verdict 1 = .ok (.istore_n 3, 1) := by decide +kernel
theorem dX9_verdict_2 : decode cX9_verdict 2 = .ok (.iconst 0, 1) := by decide +kernel
theorem dX9_verdict_3 : decode cX9_verdict 3 = .ok (.istore 4, 2) := by decide +kernel
theorem dX9_verdict_5 : decode cX9_verdict 5 = .ok (.iload 4, 2) := by decide +kernel
theorem dX9_verdict_7 : decode cX9_verdict 7 = .ok (.aload_n 0, 1) := by decide +kernel
theorem dX9_verdict_8 : decode cX9_verdict 8 = .ok (.getfield 50, 3) := by decide +kernel
theorem dX9_verdict_11 : decode cX9_verdict 11 = .ok (.getfield 68, 3) := by decide +kernel
theorem dX9_verdict_14 : decode cX9_verdict 14 = .ok (.if_icmp .ge 185, 3) := by decide +kernel
theorem dX9_verdict_17 : decode cX9_verdict 17 = .ok (.iload 4, 2) := by decide +kernel
theorem dX9_verdict_19 : decode cX9_verdict 19 = .ok (.iload_n 1, 1) := by decide +kernel
theorem dX9_verdict_20 : decode cX9_verdict 20 = .ok (.if_icmp .ne 6, 3) := by decide +kernel
theorem dX9_verdict_23 : decode cX9_verdict 23 = .ok (.goto 170, 3) := by decide +kernel
theorem dX9_verdict_26 : decode cX9_verdict 26 = .ok (.iconst 0, 1) := by decide +kernel
theorem dX9_verdict_27 : decode cX9_verdict 27 = .ok (.istore 5, 2) := by decide +kernel
theorem dX9_verdict_29 : decode cX9_verdict 29 = .ok (.iconst 0, 1) := by decide +kernel
theorem dX9_verdict_30 : decode cX9_verdict 30 = .ok (.istore 6, 2) := by decide +kernel
theorem dX9_verdict_32 : decode cX9_verdict 32 = .ok (.iconst 0, 1) := by decide +kernel
theorem dX9_verdict_33 : decode cX9_verdict 33 = .ok (.istore 7, 2) := by decide +kernel
theorem dX9_verdict_35 : decode cX9_verdict 35 = .ok (.iconst 0, 1) := by decide +kernel
theorem dX9_verdict_36 : decode cX9_verdict 36 = .ok (.istore 8, 2) := by decide +kernel
theorem dX9_verdict_38 : decode cX9_verdict 38 = .ok (.iload 8, 2) := by decide +kernel
theorem dX9_verdict_40 : decode cX9_verdict 40 = .ok (.aload_n 0, 1) := by decide +kernel
theorem dX9_verdict_41 : decode cX9_verdict 41 = .ok (.getfield 50, 3) := by decide +kernel
theorem dX9_verdict_44 : decode cX9_verdict 44 = .ok (.getfield 55, 3) := by decide +kernel
theorem dX9_verdict_47 : decode cX9_verdict 47 = .ok (.if_icmp .ge 96, 3) := by decide +kernel
theorem dX9_verdict_50 : decode cX9_verdict 50 = .ok (.aload_n 0, 1) := by decide +kernel
theorem dX9_verdict_51 : decode cX9_verdict 51 = .ok (.iload 8, 2) := by decide +kernel
theorem dX9_verdict_53 : decode cX9_verdict 53 = .ok (.iload_n 1, 1) := by decide +kernel
theorem dX9_verdict_54 : decode cX9_verdict 54 = .ok (.iload 4, 2) := by decide +kernel
theorem dX9_verdict_56 : decode cX9_verdict 56 = .ok (.iload_n 2, 1) := by decide +kernel
theorem dX9_verdict_57 : decode cX9_verdict 57 = .ok (.invokevirtual 128, 3) := by decide +kernel
theorem dX9_verdict_60 : decode cX9_verdict 60 = .ok (.istore 9, 2) := by decide +kernel
theorem dX9_verdict_62 : decode cX9_verdict 62 = .ok (.iload 5, 2) := by decide +kernel
theorem dX9_verdict_64 : decode cX9_verdict 64 = .ok (.iload 9, 2) := by decide +kernel
theorem dX9_verdict_66 : decode cX9_verdict 66 = .ok (.iconst 1, 1) := by decide +kernel
theorem dX9_verdict_67 : decode cX9_verdict 67 = .ok (.if_icmp .ne 16, 3) := by decide +kernel
theorem dX9_verdict_70 : decode cX9_verdict 70 = .ok (.aload_n 0, 1) := by decide +kernel
theorem dX9_verdict_71 : decode cX9_verdict 71 = .ok (.getfield 50, 3) := by decide +kernel
theorem dX9_verdict_74 : decode cX9_verdict 74 = .ok (.getfield 81, 3) := by decide +kernel
theorem dX9_verdict_77 : decode cX9_verdict 77 = .ok (.iload 8, 2) := by decide +kernel
theorem dX9_verdict_79 : decode cX9_verdict 79 = .ok (.iaload, 1) := by decide +kernel
theorem dX9_verdict_80 : decode cX9_verdict 80 = .ok (.goto 4, 3) := by decide +kernel
theorem dX9_verdict_83 : decode cX9_verdict 83 = .ok (.iconst 0, 1) := by decide +kernel
theorem dX9_verdict_84 : decode cX9_verdict 84 = .ok (.iadd, 1) := by decide +kernel
theorem dX9_verdict_85 : decode cX9_verdict 85 = .ok (.istore 5, 2) := by decide +kernel
theorem dX9_verdict_87 : decode cX9_verdict 87 = .ok (.iload 6, 2) := by decide +kernel
theorem dX9_verdict_89 : decode cX9_verdict 89 = .ok (.iload 9, 2) := by decide +kernel
theorem dX9_verdict_91 : decode cX9_verdict 91 = .ok (.iconst 2, 1) := by decide +kernel
theorem dX9_verdict_92 : decode cX9_verdict 92 = .ok (.if_icmp .ne 16, 3) := by decide +kernel
theorem dX9_verdict_95 : decode cX9_verdict 95 = .ok (.aload_n 0, 1) := by decide +kernel
theorem dX9_verdict_96 : decode cX9_verdict 96 = .ok (.getfield 50, 3) := by decide +kernel
theorem dX9_verdict_99 : decode cX9_verdict 99 = .ok (.getfield 81, 3) := by decide +kernel
theorem dX9_verdict_102 : decode cX9_verdict 102 = .ok (.iload 8, 2) := by decide +kernel
theorem dX9_verdict_104 : decode cX9_verdict 104 = .ok (.iaload, 1) := by decide +kernel
theorem dX9_verdict_105 : decode cX9_verdict 105 = .ok (.goto 4, 3) := by decide +kernel
theorem dX9_verdict_108 : decode cX9_verdict 108 = .ok (.iconst 0, 1) := by decide +kernel
theorem dX9_verdict_109 : decode cX9_verdict 109 = .ok (.iadd, 1) := by decide +kernel
theorem dX9_verdict_110 : decode cX9_verdict 110 = .ok (.istore 6, 2) := by decide +kernel
theorem dX9_verdict_112 : decode cX9_verdict 112 = .ok (.iload 7, 2) := by decide +kernel
theorem dX9_verdict_114 : decode cX9_verdict 114 = .ok (.iload 9, 2) := by decide +kernel
theorem dX9_verdict_116 : decode cX9_verdict 116 = .ok (.iconst 4, 1) := by decide +kernel
theorem dX9_verdict_117 : decode cX9_verdict 117 = .ok (.if_icmp .ne 16, 3) := by decide +kernel
theorem dX9_verdict_120 : decode cX9_verdict 120 = .ok (.aload_n 0, 1) := by decide +kernel
theorem dX9_verdict_121 : decode cX9_verdict 121 = .ok (.getfield 50, 3) := by decide +kernel
theorem dX9_verdict_124 : decode cX9_verdict 124 = .ok (.getfield 81, 3) := by decide +kernel
theorem dX9_verdict_127 : decode cX9_verdict 127 = .ok (.iload 8, 2) := by decide +kernel
theorem dX9_verdict_129 : decode cX9_verdict 129 = .ok (.iaload, 1) := by decide +kernel
theorem dX9_verdict_130 : decode cX9_verdict 130 = .ok (.goto 4, 3) := by decide +kernel
theorem dX9_verdict_133 : decode cX9_verdict 133 = .ok (.iconst 0, 1) := by decide +kernel
theorem dX9_verdict_134 : decode cX9_verdict 134 = .ok (.iadd, 1) := by decide +kernel
theorem dX9_verdict_135 : decode cX9_verdict 135 = .ok (.istore 7, 2) := by decide +kernel
theorem dX9_verdict_137 : decode cX9_verdict 137 = .ok (.iinc 8 1, 3) := by decide +kernel
theorem dX9_verdict_140 : decode cX9_verdict 140 = .ok (.goto (-102), 3) := by decide +kernel
theorem dX9_verdict_143 : decode cX9_verdict 143 = .ok (.aload_n 0, 1) := by decide +kernel
theorem dX9_verdict_144 : decode cX9_verdict 144 = .ok (.getfield 50, 3) := by decide +kernel
theorem dX9_verdict_147 : decode cX9_verdict 147 = .ok (.getfield 131, 3) := by decide +kernel
theorem dX9_verdict_150 : decode cX9_verdict 150 = .ok (.iload 7, 2) := by decide +kernel
theorem dX9_verdict_152 : decode cX9_verdict 152 = .ok (.isub, 1) := by decide +kernel
theorem dX9_verdict_153 : decode cX9_verdict 153 = .ok (.istore 8, 2) := by decide +kernel
theorem dX9_verdict_155 : decode cX9_verdict 155 = .ok (.aload_n 0, 1) := by decide +kernel
theorem dX9_verdict_156 : decode cX9_verdict 156 = .ok (.getfield 50, 3) := by decide +kernel
theorem dX9_verdict_159 : decode cX9_verdict 159 = .ok (.iload 6, 2) := by decide +kernel
theorem dX9_verdict_161 : decode cX9_verdict 161 = .ok (.iload 8, 2) := by decide +kernel
theorem dX9_verdict_163 : decode cX9_verdict 163 = .ok (.iload 6, 2) := by decide +kernel
theorem dX9_verdict_165 : decode cX9_verdict 165 = .ok (.isub, 1) := by decide +kernel
theorem dX9_verdict_166 : decode cX9_verdict 166 = .ok (.invokevirtual 105, 3) := by decide +kernel
theorem dX9_verdict_169 : decode cX9_verdict 169 = .ok (.ifCond .eq 5, 3) := by decide +kernel
theorem dX9_verdict_172 : decode cX9_verdict 172 = .ok (.iconst 0, 1) := by decide +kernel
theorem dX9_verdict_173 : decode cX9_verdict 173 = .ok (.ireturn, 1) := by decide +kernel
theorem dX9_verdict_174 : decode cX9_verdict 174 = .ok (.aload_n 0, 1) := by decide +kernel
theorem dX9_verdict_175 : decode cX9_verdict 175 = .ok (.getfield 50, 3) := by decide +kernel
theorem dX9_verdict_178 : decode cX9_verdict 178 = .ok (.iload 8, 2) := by decide +kernel
theorem dX9_verdict_180 : decode cX9_verdict 180 = .ok (.iload 5, 2) := by decide +kernel
theorem dX9_verdict_182 : decode cX9_verdict 182 = .ok (.isub, 1) := by decide +kernel
theorem dX9_verdict_183 : decode cX9_verdict 183 = .ok (.iload 5, 2) := by decide +kernel
theorem dX9_verdict_185 : decode cX9_verdict 185 = .ok (.invokevirtual 105, 3) := by decide +kernel
theorem dX9_verdict_188 : decode cX9_verdict 188 = .ok (.ifCond .eq 5, 3) := by decide +kernel
theorem dX9_verdict_191 : decode cX9_verdict 191 = .ok (.iconst 1, 1) := by decide +kernel
theorem dX9_verdict_192 : decode cX9_verdict 192 = .ok (.istore_n 3, 1) := by decide +kernel
theorem dX9_verdict_193 : decode cX9_verdict 193 = .ok (.iinc 4 1, 3) := by decide +kernel
theorem dX9_verdict_196 : decode cX9_verdict 196 = .ok (.goto (-191), 3) := by decide +kernel
theorem dX9_verdict_199 : decode cX9_verdict 199 = .ok (.iload_n 3, 1) := by decide +kernel
theorem dX9_verdict_200 : decode cX9_verdict 200 = .ok (.ireturn, 1) := by decide +kernel
theorem dX9_stancesOf_0 : decode cX9_stancesOf 0 = .ok (.bipush 99, 2) := by decide +kernel
theorem dX9_stancesOf_2 : decode cX9_stancesOf 2 = .ok (.aload_n 0, 1) := by decide +kernel
theorem dX9_stancesOf_3 : decode cX9_stancesOf 3 = .ok (.getfield 50, 3) := by decide +kernel
theorem dX9_stancesOf_6 : decode cX9_stancesOf 6 = .ok (.getfield 58, 3) := by decide +kernel
theorem dX9_stancesOf_9 : decode cX9_stancesOf 9 = .ok (.iload_n 1, 1) := by decide +kernel
theorem dX9_stancesOf_10 : decode cX9_stancesOf 10 = .ok (.iaload, 1) := by decide +kernel
theorem dX9_stancesOf_11 : decode cX9_stancesOf 11 = .ok (.iload 4, 2) := by decide +kernel
theorem dX9_stancesOf_13 : decode cX9_stancesOf 13 = .ok (.iadd, 1) := by decide +kernel
theorem dX9_stancesOf_14 : decode cX9_stancesOf 14 = .ok (.invokestatic 113, 3) := by decide +kernel
theorem dX9_stancesOf_17 : decode cX9_stancesOf 17 = .ok (.istore 5, 2) := by decide +kernel
theorem dX9_stancesOf_19 : decode cX9_stancesOf 19 = .ok (.bipush 99, 2) := by decide +kernel
theorem dX9_stancesOf_21 : decode cX9_stancesOf 21 = .ok (.aload_n 0, 1) := by decide +kernel
theorem dX9_stancesOf_22 : decode cX9_stancesOf 22 = .ok (.getfield 50, 3) := by decide +kernel
theorem dX9_stancesOf_25 : decode cX9_stancesOf 25 = .ok (.getfield 61, 3) := by decide +kernel
theorem dX9_stancesOf_28 : decode cX9_stancesOf 28 = .ok (.iload_n 1, 1) := by decide +kernel
theorem dX9_stancesOf_29 : decode cX9_stancesOf 29 = .ok (.iaload, 1) := by decide +kernel
theorem dX9_stancesOf_30 : decode cX9_stancesOf 30 = .ok (.iload 4, 2) := by decide +kernel
theorem dX9_stancesOf_32 : decode cX9_stancesOf 32 = .ok (.iadd, 1) := by decide +kernel
theorem dX9_stancesOf_33 : decode cX9_stancesOf 33 = .ok (.invokestatic 113, 3) := by decide +kernel
theorem dX9_stancesOf_36 : decode cX9_stancesOf 36 = .ok (.istore 6, 2) := by decide +kernel
theorem dX9_stancesOf_38 : decode cX9_stancesOf 38 = .ok (.iconst 0, 1) := by decide +kernel
theorem dX9_stancesOf_39 : decode cX9_stancesOf 39 = .ok (.istore 7, 2) := by decide +kernel
theorem dX9_stancesOf_41 : decode cX9_stancesOf 41 = .ok (.iconst 0, 1) := by decide +kernel
theorem dX9_stancesOf_42 : decode cX9_stancesOf 42 = .ok (.aload_n 0, 1) := by decide +kernel
theorem dX9_stancesOf_43 : decode cX9_stancesOf 43 = .ok (.getfield 50, 3) := by decide +kernel
theorem dX9_stancesOf_46 : decode cX9_stancesOf 46 = .ok (.getfield 58, 3) := by decide +kernel
theorem dX9_stancesOf_49 : decode cX9_stancesOf 49 = .ok (.iload_n 1, 1) := by decide +kernel
theorem dX9_stancesOf_50 : decode cX9_stancesOf 50 = .ok (.iaload, 1) := by decide +kernel
theorem dX9_stancesOf_51 : decode cX9_stancesOf 51 = .ok (.iload 4, 2) := by decide +kernel
theorem dX9_stancesOf_53 : decode cX9_stancesOf 53 = .ok (.isub, 1) := by decide +kernel
theorem dX9_stancesOf_54 : decode cX9_stancesOf 54 = .ok (.invokestatic 134, 3) := by decide +kernel
theorem dX9_stancesOf_57 : decode cX9_stancesOf 57 = .ok (.istore 8, 2) := by decide +kernel
theorem dX9_stancesOf_59 : decode cX9_stancesOf 59 = .ok (.iload 8, 2) := by decide +kernel
theorem dX9_stancesOf_61 : decode cX9_stancesOf 61 = .ok (.iload 5, 2) := by decide +kernel
theorem dX9_stancesOf_63 : decode cX9_stancesOf 63 = .ok (.if_icmp .gt 105, 3) := by decide +kernel
theorem dX9_stancesOf_66 : decode cX9_stancesOf 66 = .ok (.iconst 0, 1) := by decide +kernel
theorem dX9_stancesOf_67 : decode cX9_stancesOf 67 = .ok (.aload_n 0, 1) := by decide +kernel
theorem dX9_stancesOf_68 : decode cX9_stancesOf 68 = .ok (.getfield 50, 3) := by decide +kernel
theorem dX9_stancesOf_71 : decode cX9_stancesOf 71 = .ok (.getfield 61, 3) := by decide +kernel
theorem dX9_stancesOf_74 : decode cX9_stancesOf 74 = .ok (.iload_n 1, 1) := by decide +kernel
theorem dX9_stancesOf_75 : decode cX9_stancesOf 75 = .ok (.iaload, 1) := by decide +kernel
theorem dX9_stancesOf_76 : decode cX9_stancesOf 76 = .ok (.iload 4, 2) := by decide +kernel
theorem dX9_stancesOf_78 : decode cX9_stancesOf 78 = .ok (.isub, 1) := by decide +kernel
theorem dX9_stancesOf_79 : decode cX9_stancesOf 79 = .ok (.invokestatic 134, 3) := by decide +kernel
theorem dX9_stancesOf_82 : decode cX9_stancesOf 82 = .ok (.istore 9, 2) := by decide +kernel
theorem dX9_stancesOf_84 : decode cX9_stancesOf 84 = .ok (.iload 9, 2) := by decide +kernel
theorem dX9_stancesOf_86 : decode cX9_stancesOf 86 = .ok (.iload 6, 2) := by decide +kernel
theorem dX9_stancesOf_88 : decode cX9_stancesOf 88 = .ok (.if_icmp .gt 74, 3) := by decide +kernel
theorem dX9_stancesOf_91 : decode cX9_stancesOf 91 = .ok (.aload_n 0, 1) := by decide +kernel
theorem dX9_stancesOf_92 : decode cX9_stancesOf 92 = .ok (.iload_n 1, 1) := by decide +kernel
theorem dX9_stancesOf_93 : decode cX9_stancesOf 93 = .ok (.iload 8, 2) := by decide +kernel
theorem dX9_stancesOf_95 : decode cX9_stancesOf 95 = .ok (.iload 9, 2) := by decide +kernel
theorem dX9_stancesOf_97 : decode cX9_stancesOf 97 = .ok (.iload_n 2, 1) := by decide +kernel
theorem dX9_stancesOf_98 : decode cX9_stancesOf 98 = .ok (.invokevirtual 88, 3) := by decide +kernel
theorem dX9_stancesOf_101 : decode cX9_stancesOf 101 = .ok (.istore 10, 2) := by decide +kernel
theorem dX9_stancesOf_103 : decode cX9_stancesOf 103 = .ok (.aload_n 0, 1) := by decide +kernel
theorem dX9_stancesOf_104 : decode cX9_stancesOf 104 = .ok (.iload_n 1, 1) := by decide +kernel
theorem dX9_stancesOf_105 : decode cX9_stancesOf 105 = .ok (.iload 8, 2) := by decide +kernel
theorem dX9_stancesOf_107 : decode cX9_stancesOf 107 = .ok (.iload 9, 2) := by decide +kernel
theorem dX9_stancesOf_109 : decode cX9_stancesOf 109 = .ok (.iload_n 3, 1) := by decide +kernel
theorem dX9_stancesOf_110 : decode cX9_stancesOf 110 = .ok (.invokevirtual 88, 3) := by decide +kernel
theorem dX9_stancesOf_113 : decode cX9_stancesOf 113 = .ok (.istore 11, 2) := by decide +kernel
theorem dX9_stancesOf_115 : decode cX9_stancesOf 115 = .ok (.iload 7, 2) := by decide +kernel
theorem dX9_stancesOf_117 : decode cX9_stancesOf 117 = .ok (.iload 10, 2) := by decide +kernel
theorem dX9_stancesOf_119 : decode cX9_stancesOf 119 = .ok (.iload 11, 2) := by decide +kernel
theorem dX9_stancesOf_121 : decode cX9_stancesOf 121 = .ok (.if_icmp .ge 7, 3) := by decide +kernel
theorem dX9_stancesOf_124 : decode cX9_stancesOf 124 = .ok (.iconst 1, 1) := by decide +kernel
theorem dX9_stancesOf_125 : decode cX9_stancesOf 125 = .ok (.goto 15, 3) := by decide +kernel
theorem dX9_stancesOf_128 : decode cX9_stancesOf 128 = .ok (.iload 11, 2) := by decide +kernel
theorem dX9_stancesOf_130 : decode cX9_stancesOf 130 = .ok (.iload 10, 2) := by decide +kernel
theorem dX9_stancesOf_132 : decode cX9_stancesOf 132 = .ok (.if_icmp .ge 7, 3) := by decide +kernel
theorem dX9_stancesOf_135 : decode cX9_stancesOf 135 = .ok (.iconst 2, 1) := by decide +kernel
theorem dX9_stancesOf_136 : decode cX9_stancesOf 136 = .ok (.goto 4, 3) := by decide +kernel
theorem dX9_stancesOf_139 : decode cX9_stancesOf 139 = .ok (.iconst 4, 1) := by decide +kernel
theorem dX9_stancesOf_140 : decode cX9_stancesOf 140 = .ok (.ior, 1) := by decide +kernel
theorem dX9_stancesOf_141 : decode cX9_stancesOf 141 = .ok (.istore 7, 2) := by decide +kernel
theorem dX9_stancesOf_143 : decode cX9_stancesOf 143 = .ok (.iload 7, 2) := by decide +kernel
theorem dX9_stancesOf_145 : decode cX9_stancesOf 145 = .ok (.iload 7, 2) := by decide +kernel
theorem dX9_stancesOf_147 : decode cX9_stancesOf 147 = .ok (.iconst 1, 1) := by decide +kernel
theorem dX9_stancesOf_148 : decode cX9_stancesOf 148 = .ok (.isub, 1) := by decide +kernel
theorem dX9_stancesOf_149 : decode cX9_stancesOf 149 = .ok (.iand, 1) := by decide +kernel
theorem dX9_stancesOf_150 : decode cX9_stancesOf 150 = .ok (.ifCond .eq 6, 3) := by decide +kernel
theorem dX9_stancesOf_153 : decode cX9_stancesOf 153 = .ok (.iload 7, 2) := by decide +kernel
theorem dX9_stancesOf_155 : decode cX9_stancesOf 155 = .ok (.ireturn, 1) := by decide +kernel
theorem dX9_stancesOf_156 : decode cX9_stancesOf 156 = .ok (.iinc 9 1, 3) := by decide +kernel
theorem dX9_stancesOf_159 : decode cX9_stancesOf 159 = .ok (.goto (-75), 3) := by decide +kernel
theorem dX9_stancesOf_162 : decode cX9_stancesOf 162 = .ok (.iinc 8 1, 3) := by decide +kernel
theorem dX9_stancesOf_165 : decode cX9_stancesOf 165 = .ok (.goto (-106), 3) := by decide +kernel
theorem dX9_stancesOf_168 : decode cX9_stancesOf 168 = .ok (.iload 7, 2) := by decide +kernel
theorem dX9_stancesOf_170 : decode cX9_stancesOf 170 = .ok (.ireturn, 1) := by decide +kernel
theorem dX10_init_0 : decode cX10_init 0 = .ok (.aload_n 0, 1) := by decide +kernel
theorem dX10_init_1 : decode cX10_init 1 = .ok (.invokespecial 3, 3) := by decide +kernel
theorem dX10_init_4 : decode cX10_init 4 = .ok (.aload_n 0, 1) := by decide +kernel
theorem dX10_init_5 : decode cX10_init 5 = .ok (.new 9, 3) := by decide +kernel
theorem dX10_init_8 : decode cX10_init 8 = .ok (.dup, 1) := by decide +kernel
theorem dX10_init_9 : decode cX10_init 9 = .ok (.invokespecial 11, 3) := by decide +kernel
theorem dX10_init_12 : decode cX10_init 12 = .ok (.putfield 12, 3) := by decide +kernel
theorem dX10_init_15 : decode cX10_init 15 = .ok (.aload_n 0, 1) := by decide +kernel
theorem dX10_init_16 : decode cX10_init 16 = .ok (.new 16, 3) := by decide +kernel
theorem dX10_init_19 : decode cX10_init 19 = .ok (.dup, 1) := by decide +kernel
theorem dX10_init_20 : decode cX10_init 20 = .ok (.invokespecial 18, 3) := by decide +kernel
theorem dX10_init_23 : decode cX10_init 23 = .ok (.putfield 19, 3) := by decide +kernel
theorem dX10_init_26 : decode cX10_init 26 = .ok (.aload_n 0, 1) := by decide +kernel
theorem dX10_init_27 : decode cX10_init 27 = .ok (.new 23, 3) := by decide +kernel
theorem dX10_init_30 : decode cX10_init 30 = .ok (.dup, 1) := by decide +kernel
theorem dX10_init_31 : decode cX10_init 31 = .ok (.aload_n 0, 1) := by decide +kernel
theorem dX10_init_32 : decode cX10_init 32 = .ok (.getfield 12, 3) := by decide +kernel
theorem dX10_init_35 : decode cX10_init 35 = .ok (.invokespecial 25, 3) := by decide +kernel
theorem dX10_init_38 : decode cX10_init 38 = .ok (.putfield 28, 3) := by decide +kernel
theorem dX10_init_41 : decode cX10_init 41 = .ok (.aload_n 0, 1) := by decide +kernel
theorem dX10_init_42 : decode cX10_init 42 = .ok (.new 32, 3) := by decide +kernel
theorem dX10_init_45 : decode cX10_init 45 = .ok (.dup, 1) := by decide +kernel
theorem dX10_init_46 : decode cX10_init 46 = .ok (.aload_n 0, 1) := by decide +kernel
theorem dX10_init_47 : decode cX10_init 47 = .ok (.getfield 12, 3) := by decide +kernel
theorem dX10_init_50 : decode cX10_init 50 = .ok (.invokespecial 34, 3) := by decide +kernel
theorem dX10_init_53 : decode cX10_init 53 = .ok (.putfield 35, 3) := by decide +kernel
theorem dX10_init_56 : decode cX10_init 56 = .ok (.aload_n 0, 1) := by decide +kernel
theorem dX10_init_57 : decode cX10_init 57 = .ok (.new 39, 3) := by decide +kernel
theorem dX10_init_60 : decode cX10_init 60 = .ok (.dup, 1) := by decide +kernel
theorem dX10_init_61 : decode cX10_init 61 = .ok (.aload_n 0, 1) := by decide +kernel
theorem dX10_init_62 : decode cX10_init 62 = .ok (.getfield 12, 3) := by decide +kernel
theorem dX10_init_65 : decode cX10_init 65 = .ok (.aload_n 0, 1) := by decide +kernel
theorem dX10_init_66 : decode cX10_init 66 = .ok (.getfield 35, 3) := by decide +kernel
theorem dX10_init_69 : decode cX10_init 69 = .ok (.invokespecial 41, 3) := by decide +kernel
theorem dX10_init_72 : decode cX10_init 72 = .ok (.putfield 44, 3) := by decide +kernel
theorem dX10_init_75 : decode cX10_init 75 = .ok (.aload_n 0, 1) := by decide +kernel
theorem dX10_init_76 : decode cX10_init 76 = .ok (.new 48, 3) := by decide +kernel
theorem dX10_init_79 : decode cX10_init 79 = .ok (.dup, 1) := by decide +kernel
theorem dX10_init_80 : decode cX10_init 80 = .ok (.aload_n 0, 1) := by decide +kernel
theorem dX10_init_81 : decode cX10_init 81 = .ok (.getfield 35, 3) := by decide +kernel
theorem dX10_init_84 : decode cX10_init 84 = .ok (.invokespecial 50, 3) := by decide +kernel
theorem dX10_init_87 : decode cX10_init 87 = .ok (.putfield 53, 3) := by decide +kernel
theorem dX10_init_90 : decode cX10_init 90 = .ok (.aload_n 0, 1) := by decide +kernel
theorem dX10_init_91 : decode cX10_init 91 = .ok (.new 57, 3) := by decide +kernel
theorem dX10_init_94 : decode cX10_init 94 = .ok (.dup, 1) := by decide +kernel
theorem dX10_init_95 : decode cX10_init 95 = .ok (.aload_n 0, 1) := by decide +kernel
theorem dX10_init_96 : decode cX10_init 96 = .ok (.getfield 28, 3) := by decide +kernel
theorem dX10_init_99 : decode cX10_init 99 = .ok (.invokespecial 59, 3) := by decide +kernel
theorem dX10_init_102 : decode cX10_init 102 = .ok (.putfield 62, 3) := by decide +kernel
theorem dX10_init_105 : decode cX10_init 105 = .ok (.aload_n 0, 1) := by decide +kernel
theorem dX10_init_106 : decode cX10_init 106 = .ok (.new 66, 3) := by decide +kernel
theorem dX10_init_109 : decode cX10_init 109 = .ok (.dup, 1) := by decide +kernel
theorem dX10_init_110 : decode cX10_init 110 = .ok (.aload_n 0, 1) := by decide +kernel
theorem dX10_init_111 : decode cX10_init 111 = .ok (.getfield 28, 3) := by decide +kernel
theorem dX10_init_114 : decode cX10_init 114 = .ok (.invokespecial 68, 3) := by decide +kernel
theorem dX10_init_117 : decode cX10_init 117 = .ok (.putfield 69, 3) := by decide +kernel
theorem dX10_init_120 : decode cX10_init 120 = .ok (.aload_n 0, 1) := by decide +kernel
theorem dX10_init_121 : decode cX10_init 121 = .ok (.new 73, 3) := by decide +kernel
theorem dX10_init_124 : decode cX10_init 124 = .ok (.dup, 1) := by decide +kernel
theorem dX10_init_125 : decode cX10_init 125 = .ok (.invokespecial 75, 3) := by decide +kernel
theorem dX10_init_128 : decode cX10_init 128 = .ok (.putfield 76, 3) := by decide +kernel
theorem dX10_init_131 : decode cX10_init 131 = .ok (.return_, 1) := by decide +kernel
theorem dX10_feed_0 : decode cX10_feed 0 = .ok (.aload_n 0, 1) := by decide +kernel
theorem dX10_feed_1 : decode cX10_feed 1 = .ok (.getfield 19, 3) := by decide +kernel
theorem dX10_feed_4 : decode cX10_feed 4 = .ok (.getfield 80, 3) := by decide +kernel
theorem dX10_feed_7 : decode cX10_feed 7 = .ok (.sipush 580, 3) := by decide +kernel
theorem dX10_feed_10 : decode cX10_feed 10 = .ok (.if_icmp .le 5, 3) := by decide +kernel
theorem dX10_feed_13 : decode cX10_feed 13 = .ok (.iconst (-1), 1) := by decide +kernel
theorem dX10_feed_14 : decode cX10_feed 14 = .ok (.ireturn, 1) := by decide +kernel
theorem dX10_feed_15 : decode cX10_feed 15 = .ok (.aload_n 0, 1) := by decide +kernel
theorem dX10_feed_16 : decode cX10_feed 16 = .ok (.getfield 19, 3) := by decide +kernel
theorem dX10_feed_19 : decode cX10_feed 19 = .ok (.iload_n 1, 1) := by decide +kernel
theorem dX10_feed_20 : decode cX10_feed 20 = .ok (.invokevirtual 84, 3) := by decide +kernel
theorem dX10_feed_23 : decode cX10_feed 23 = .ok (.aload_n 0, 1) := by decide +kernel
theorem dX10_feed_24 : decode cX10_feed 24 = .ok (.getfield 19, 3) := by decide +kernel
theorem dX10_feed_27 : decode cX10_feed 27 = .ok (.iload_n 2, 1) := by decide +kernel
theorem dX10_feed_28 : decode cX10_feed 28 = .ok (.invokevirtual 84, 3) := by decide +kernel
theorem dX10_feed_31 : decode cX10_feed 31 = .ok (.aload_n 0, 1) := by decide +kernel
theorem dX10_feed_32 : decode cX10_feed 32 = .ok (.getfield 19, 3) := by decide +kernel
theorem dX10_feed_35 : decode cX10_feed 35 = .ok (.iload_n 3, 1) := by decide +kernel
theorem dX10_feed_36 : decode cX10_feed 36 = .ok (.invokevirtual 84, 3) := by decide +kernel
theorem dX10_feed_39 : decode cX10_feed 39 = .ok (.aload_n 0, 1) := by decide +kernel
theorem dX10_feed_40 : decode cX10_feed 40 = .ok (.getfield 19, 3) := by decide +kernel
theorem dX10_feed_43 : decode cX10_feed 43 = .ok (.iload 4, 2) := by decide +kernel
theorem dX10_feed_45 : decode cX10_feed 45 = .ok (.invokevirtual 84, 3) := by decide +kernel
theorem dX10_feed_48 : decode cX10_feed 48 = .ok (.aload_n 0, 1) := by decide +kernel
theorem dX10_feed_49 : decode cX10_feed 49 = .ok (.getfield 19, 3) := by decide +kernel
theorem dX10_feed_52 : decode cX10_feed 52 = .ok (.iload 5, 2) := by decide +kernel
theorem dX10_feed_54 : decode cX10_feed 54 = .ok (.invokevirtual 84, 3) := by decide +kernel
theorem dX10_feed_57 : decode cX10_feed 57 = .ok (.aload_n 0, 1) := by decide +kernel
theorem dX10_feed_58 : decode cX10_feed 58 = .ok (.getfield 19, 3) := by decide +kernel
theorem dX10_feed_61 : decode cX10_feed 61 = .ok (.getfield 80, 3) := by decide +kernel
theorem dX10_feed_64 : decode cX10_feed 64 = .ok (.ireturn, 1) := by decide +kernel
theorem dX10_end_0 : decode cX10_end 0 = .ok (.iload_n 1, 1) := by decide +kernel
theorem dX10_end_1 : decode cX10_end 1 = .ok (.ifCond .lt 14, 3) := by decide +kernel
theorem dX10_end_4 : decode cX10_end 4 = .ok (.iload_n 1, 1) := by decide +kernel
theorem dX10_end_5 : decode cX10_end 5 = .ok (.aload_n 0, 1) := by decide +kernel
theorem dX10_end_6 : decode cX10_end 6 = .ok (.getfield 19, 3) := by decide +kernel
theorem dX10_end_9 : decode cX10_end 9 = .ok (.getfield 80, 3) := by decide +kernel
theorem dX10_end_12 : decode cX10_end 12 = .ok (.if_icmp .le 5, 3) := by decide +kernel
theorem dX10_end_15 : decode cX10_end 15 = .ok (.iconst 0, 1) := by decide +kernel
theorem dX10_end_16 : decode cX10_end 16 = .ok (.ireturn, 1) := by decide +kernel
theorem dX10_end_17 : decode cX10_end 17 = .ok (.aload_n 0, 1) := by decide +kernel
theorem dX10_end_18 : decode cX10_end 18 = .ok (.getfield 19, 3) := by decide +kernel
theorem dX10_end_21 : decode cX10_end 21 = .ok (.iload_n 1, 1) := by decide +kernel
theorem dX10_end_22 : decode cX10_end 22 = .ok (.putfield 80, 3) := by decide +kernel
theorem dX10_end_25 : decode cX10_end 25 = .ok (.iconst 1, 1) := by decide +kernel
theorem dX10_end_26 : decode cX10_end 26 = .ok (.ireturn, 1) := by decide +kernel
theorem dX10_fault_0 : decode cX10_fault 0 = .ok (.aload_n 0, 1) := by decide +kernel
theorem dX10_fault_1 : decode cX10_fault 1 = .ok (.getfield 19, 3) := by decide +kernel
theorem dX10_fault_4 : decode cX10_fault 4 = .ok (.invokevirtual 88, 3) := by decide +kernel
theorem dX10_fault_7 : decode cX10_fault 7 = .ok (.ireturn, 1) := by decide +kernel
theorem dX10_sheet_0 : decode cX10_sheet 0 = .ok (.aload_n 0, 1) := by decide +kernel
theorem dX10_sheet_1 : decode cX10_sheet 1 = .ok (.getfield 19, 3) := by decide +kernel
theorem dX10_sheet_4 : decode cX10_sheet 4 = .ok (.invokevirtual 88, 3) := by decide +kernel
theorem dX10_sheet_7 : decode cX10_sheet 7 = .ok (.iconst (-1), 1) := by decide +kernel
theorem dX10_sheet_8 : decode cX10_sheet 8 = .ok (.if_icmp .eq 5, 3) := by decide +kernel
theorem dX10_sheet_11 : decode cX10_sheet 11 = .ok (.iconst (-1), 1) := by decide +kernel
theorem dX10_sheet_12 : decode cX10_sheet 12 = .ok (.ireturn, 1) := by decide +kernel
theorem dX10_sheet_13 : decode cX10_sheet 13 = .ok (.aload_n 0, 1) := by decide +kernel
theorem dX10_sheet_14 : decode cX10_sheet 14 = .ok (.getfield 12, 3) := by decide +kernel
theorem dX10_sheet_17 : decode cX10_sheet 17 = .ok (.aload_n 0, 1) := by decide +kernel
theorem dX10_sheet_18 : decode cX10_sheet 18 = .ok (.getfield 19, 3) := by decide +kernel
theorem dX10_sheet_21 : decode cX10_sheet 21 = .ok (.getfield 92, 3) := by decide +kernel
theorem dX10_sheet_24 : decode cX10_sheet 24 = .ok (.invokevirtual 95, 3) := by decide +kernel
theorem dX10_sheet_27 : decode cX10_sheet 27 = .ok (.aload_n 0, 1) := by decide +kernel
theorem dX10_sheet_28 : decode cX10_sheet 28 = .ok (.getfield 19, 3) := by decide +kernel
theorem dX10_sheet_31 : decode cX10_sheet 31 = .ok (.iconst 0, 1) := by decide +kernel
theorem dX10_sheet_32 : decode cX10_sheet 32 = .ok (.putfield 80, 3) := by decide +kernel
theorem dX10_sheet_35 : decode cX10_sheet 35 = .ok (.aload_n 0, 1) := by decide +kernel
theorem dX10_sheet_36 : decode cX10_sheet 36 = .ok (.getfield 76, 3) := by decide +kernel
theorem dX10_sheet_39 : decode cX10_sheet 39 = .ok (.iconst 0, 1) := by decide +kernel
theorem dX10_sheet_40 : decode cX10_sheet 40 = .ok (.putfield 98, 3) := by decide +kernel
theorem dX10_sheet_43 : decode cX10_sheet 43 = .ok (.aload_n 0, 1) := by decide +kernel
theorem dX10_sheet_44 : decode cX10_sheet 44 = .ok (.getfield 12, 3) := by decide +kernel
theorem dX10_sheet_47 : decode cX10_sheet 47 = .ok (.getfield 101, 3) := by decide +kernel
theorem dX10_sheet_50 : decode cX10_sheet 50 = .ok (.ireturn, 1) := by decide +kernel
theorem dX10_voter_0 : decode cX10_voter 0 = .ok (.aload_n 0, 1) := by decide +kernel
theorem dX10_voter_1 : decode cX10_voter 1 = .ok (.getfield 12, 3) := by decide +kernel
theorem dX10_voter_4 : decode cX10_voter 4 = .ok (.iload_n 1, 1) := by decide +kernel
theorem dX10_voter_5 : decode cX10_voter 5 = .ok (.invokevirtual 104, 3) := by decide +kernel
theorem dX10_voter_8 : decode cX10_voter 8 = .ok (.ifCond .ne 5, 3) := by decide +kernel
theorem dX10_voter_11 : decode cX10_voter 11 = .ok (.iconst (-1), 1) := by decide +kernel
theorem dX10_voter_12 : decode cX10_voter 12 = .ok (.ireturn, 1) := by decide +kernel
theorem dX10_voter_13 : decode cX10_voter 13 = .ok (.iload_n 2, 1) := by decide +kernel
theorem dX10_voter_14 : decode cX10_voter 14 = .ok (.tableswitch 98 0 5 #[38, 48, 58, 68, 78, 88], 38) := by decide +kernel
theorem dX10_voter_52 : decode cX10_voter 52 = .ok (.aload_n 0, 1) := by decide +kernel
theorem dX10_voter_53 : decode cX10_voter 53 = .ok (.getfield 12, 3) := by decide +kernel
theorem dX10_voter_56 : decode cX10_voter 56 = .ok (.getfield 108, 3) := by decide +kernel
theorem dX10_voter_59 : decode cX10_voter 59 = .ok (.iload_n 1, 1) := by decide +kernel
theorem dX10_voter_60 : decode cX10_voter 60 = .ok (.iaload, 1) := by decide +kernel
theorem dX10_voter_61 : decode cX10_voter 61 = .ok (.ireturn, 1) := by decide +kernel
theorem dX10_voter_62 : decode cX10_voter 62 = .ok (.aload_n 0, 1) := by decide +kernel
theorem dX10_voter_63 : decode cX10_voter 63 = .ok (.getfield 12, 3) := by decide +kernel
theorem dX10_voter_66 : decode cX10_voter 66 = .ok (.getfield 112, 3) := by decide +kernel
theorem dX10_voter_69 : decode cX10_voter 69 = .ok (.iload_n 1, 1) := by decide +kernel
theorem dX10_voter_70 : decode cX10_voter 70 = .ok (.iaload, 1) := by decide +kernel
theorem dX10_voter_71 : decode cX10_voter 71 = .ok (.ireturn, 1) := by decide +kernel
theorem dX10_voter_72 : decode cX10_voter 72 = .ok (.aload_n 0, 1) := by decide +kernel
theorem dX10_voter_73 : decode cX10_voter 73 = .ok (.getfield 12, 3) := by decide +kernel
theorem dX10_voter_76 : decode cX10_voter 76 = .ok (.getfield 115, 3) := by decide +kernel
theorem dX10_voter_79 : decode cX10_voter 79 = .ok (.iload_n 1, 1) := by decide +kernel
theorem dX10_voter_80 : decode cX10_voter 80 = .ok (.iaload, 1) := by decide +kernel
theorem dX10_voter_81 : decode cX10_voter 81 = .ok (.ireturn, 1) := by decide +kernel
theorem dX10_voter_82 : decode cX10_voter 82 = .ok (.aload_n 0, 1) := by decide +kernel
theorem dX10_voter_83 : decode cX10_voter 83 = .ok (.getfield 12, 3) := by decide +kernel
theorem dX10_voter_86 : decode cX10_voter 86 = .ok (.getfield 118, 3) := by decide +kernel
theorem dX10_voter_89 : decode cX10_voter 89 = .ok (.iload_n 1, 1) := by decide +kernel
theorem dX10_voter_90 : decode cX10_voter 90 = .ok (.iaload, 1) := by decide +kernel
theorem dX10_voter_91 : decode cX10_voter 91 = .ok (.ireturn, 1) := by decide +kernel
theorem dX10_voter_92 : decode cX10_voter 92 = .ok (.aload_n 0, 1) := by decide +kernel
theorem dX10_voter_93 : decode cX10_voter 93 = .ok (.getfield 12, 3) := by decide +kernel
theorem dX10_voter_96 : decode cX10_voter 96 = .ok (.getfield 121, 3) := by decide +kernel
theorem dX10_voter_99 : decode cX10_voter 99 = .ok (.iload_n 1, 1) := by decide +kernel
theorem dX10_voter_100 : decode cX10_voter 100 = .ok (.iaload, 1) := by decide +kernel
theorem dX10_voter_101 : decode cX10_voter 101 = .ok (.ireturn, 1) := by decide +kernel
theorem dX10_voter_102 : decode cX10_voter 102 = .ok (.aload_n 0, 1) := by decide +kernel
theorem dX10_voter_103 : decode cX10_voter 103 = .ok (.getfield 12, 3) := by decide +kernel
theorem dX10_voter_106 : decode cX10_voter 106 = .ok (.getfield 124, 3) := by decide +kernel
theorem dX10_voter_109 : decode cX10_voter 109 = .ok (.iload_n 1, 1) := by decide +kernel
theorem dX10_voter_110 : decode cX10_voter 110 = .ok (.iaload, 1) := by decide +kernel
theorem dX10_voter_111 : decode cX10_voter 111 = .ok (.ireturn, 1) := by decide +kernel
theorem dX10_voter_112 : decode cX10_voter 112 = .ok (.iconst (-1), 1) := by decide +kernel
theorem dX10_voter_113 : decode cX10_voter 113 = .ok (.ireturn, 1) := by decide +kernel
theorem dX10_place_0 : decode cX10_place 0 = .ok (.aload_n 0, 1) := by decide +kernel
theorem dX10_place_1 : decode cX10_place 1 = .ok (.getfield 12, 3) := by decide +kernel
theorem dX10_place_4 : decode cX10_place 4 = .ok (.iload_n 1, 1) := by decide +kernel
theorem dX10_place_5 : decode cX10_place 5 = .ok (.invokevirtual 127, 3) := by decide +kernel
theorem dX10_place_8 : decode cX10_place 8 = .ok (.ifCond .ne 5, 3) := by decide +kernel
theorem dX10_place_11 : decode cX10_place 11 = .ok (.iconst (-1), 1) := by decide +kernel
theorem dX10_place_12 : decode cX10_place 12 = .ok (.ireturn, 1) := by decide +kernel
theorem dX10_place_13 : decode cX10_place 13 = .ok (.iload_n 2, 1) := by decide +kernel
theorem dX10_place_14 : decode cX10_place 14 = .ok (.ifCond .ne 13, 3) := by decide +kernel
theorem dX10_place_17 : decode cX10_place 17 = .ok (.aload_n 0, 1) := by decide +kernel
theorem dX10_place_18 : decode cX10_place 18 = .ok (.getfield 12, 3) := by decide +kernel
theorem dX10_place_21 : decode cX10_place 21 = .ok (.getfield 130, 3) := by decide +kernel
theorem dX10_place_24 : decode cX10_place 24 = .ok (.iload_n 1, 1) := by decide +kernel
theorem dX10_place_25 : decode cX10_place 25 = .ok (.iaload, 1) := by decide +kernel
theorem dX10_place_26 : decode cX10_place 26 = .ok (.ireturn, 1) := by decide +kernel
theorem dX10_place_27 : decode cX10_place 27 = .ok (.iload_n 2, 1) := by decide +kernel
theorem dX10_place_28 : decode cX10_place 28 = .ok (.iconst 1, 1) := by decide +kernel
theorem dX10_place_29 : decode cX10_place 29 = .ok (.if_icmp .ne 15, 3) := by decide +kernel
theorem dX10_place_32 : decode cX10_place 32 = .ok (.aload_n 0, 1) := by decide +kernel
theorem dX10_place_33 : decode cX10_place 33 = .ok (.getfield 12, 3) := by decide +kernel
theorem dX10_place_36 : decode cX10_place 36 = .ok (.getfield 133, 3) := by decide +kernel
theorem dX10_place_39 : decode cX10_place 39 = .ok (.iload_n 1, 1) := by decide +kernel
theorem dX10_place_40 : decode cX10_place 40 = .ok (.iaload, 1) := by decide +kernel
theorem dX10_place_41 : decode cX10_place 41 = .ok (.goto 4, 3) := by decide +kernel
theorem dX10_place_44 : decode cX10_place 44 = .ok (.iconst (-1), 1) := by decide +kernel
theorem dX10_place_45 : decode cX10_place 45 = .ok (.ireturn, 1) := by decide +kernel
theorem dX10_propose_0 : decode cX10_propose 0 = .ok (.aload_n 0, 1) := by decide +kernel
theorem dX10_propose_1 : decode cX10_propose 1 = .ok (.getfield 12, 3) := by decide +kernel
theorem dX10_propose_4 : decode cX10_propose 4 = .ok (.getfield 101, 3) := by decide +kernel
theorem dX10_propose_7 : decode cX10_propose 7 = .ok (.ifCond .eq 23, 3) := by decide +kernel
theorem dX10_propose_10 : decode cX10_propose 10 = .ok (.iload_n 1, 1) := by decide +kernel
theorem dX10_propose_11 : decode cX10_propose 11 = .ok (.iload_n 2, 1) := by decide +kernel
theorem dX10_propose_12 : decode cX10_propose 12 = .ok (.invokestatic 136, 3) := by decide +kernel
theorem dX10_propose_15 : decode cX10_propose 15 = .ok (.ifCond .eq 15, 3) := by decide +kernel
theorem dX10_propose_18 : decode cX10_propose 18 = .ok (.aload_n 0, 1) := by decide +kernel
theorem dX10_propose_19 : decode cX10_propose 19 = .ok (.getfield 12, 3) := by decide +kernel
theorem dX10_propose_22 : decode cX10_propose 22 = .ok (.getfield 140, 3) := by decide +kernel
theorem dX10_propose_25 : decode cX10_propose 25 = .ok (.bipush 20, 2) := by decide +kernel
theorem dX10_propose_27 : decode cX10_propose 27 = .ok (.if_icmp .lt 5, 3) := by decide +kernel
theorem dX10_propose_30 : decode cX10_propose 30 = .ok (.iconst (-1), 1) := by decide +kernel
theorem dX10_propose_31 : decode cX10_propose 31 = .ok (.ireturn, 1) := by decide +kernel
theorem dX10_propose_32 : decode cX10_propose 32 = .ok (.aload_n 0, 1) := by decide +kernel
theorem dX10_propose_33 : decode cX10_propose 33 = .ok (.getfield 12, 3) := by decide +kernel
theorem dX10_propose_36 : decode cX10_propose 36 = .ok (.iload_n 1, 1) := by decide +kernel
theorem dX10_propose_37 : decode cX10_propose 37 = .ok (.iload_n 2, 1) := by decide +kernel
theorem dX10_propose_38 : decode cX10_propose 38 = .ok (.invokevirtual 143, 3) := by decide +kernel
theorem dX10_propose_41 : decode cX10_propose 41 = .ok (.aload_n 0, 1) := by decide +kernel
theorem dX10_propose_42 : decode cX10_propose 42 = .ok (.getfield 12, 3) := by decide +kernel
theorem dX10_propose_45 : decode cX10_propose 45 = .ok (.getfield 140, 3) := by decide +kernel
theorem dX10_propose_48 : decode cX10_propose 48 = .ok (.iconst 1, 1) := by decide +kernel
theorem dX10_propose_49 : decode cX10_propose 49 = .ok (.isub, 1) := by decide +kernel
theorem dX10_propose_50 : decode cX10_propose 50 = .ok (.ireturn, 1) := by decide +kernel
theorem dX10_way_0 : decode cX10_way 0 = .ok (.aload_n 0, 1) := by decide +kernel
theorem dX10_way_1 : decode cX10_way 1 = .ok (.getfield 12, 3) := by decide +kernel
theorem dX10_way_4 : decode cX10_way 4 = .ok (.iload_n 1, 1) := by decide +kernel
theorem dX10_way_5 : decode cX10_way 5 = .ok (.invokevirtual 104, 3) := by decide +kernel
theorem dX10_way_8 : decode cX10_way 8 = .ok (.ifCond .eq 11, 3) := by decide +kernel
theorem dX10_way_11 : decode cX10_way 11 = .ok (.iload_n 2, 1) := by decide +kernel
theorem dX10_way_12 : decode cX10_way 12 = .ok (.iload_n 3, 1) := by decide +kernel
theorem dX10_way_13 : decode cX10_way 13 = .ok (.invokestatic 136, 3) := by decide +kernel
theorem dX10_way_16 : decode cX10_way 16 = .ok (.ifCond .ne 5, 3) := by decide +kernel
theorem dX10_way_19 : decode cX10_way 19 = .ok (.iconst (-1), 1) := by decide +kernel
theorem dX10_way_20 : decode cX10_way 20 = .ok (.ireturn, 1) := by decide +kernel
theorem dX10_way_21 : decode cX10_way 21 = .ok (.aload_n 0, 1) := by decide +kernel
theorem dX10_way_22 : decode cX10_way 22 = .ok (.getfield 12, 3) := by decide +kernel
theorem dX10_way_25 : decode cX10_way 25 = .ok (.iload_n 1, 1) := by decide +kernel
theorem dX10_way_26 : decode cX10_way 26 = .ok (.iload_n 2, 1) := by decide +kernel
theorem dX10_way_27 : decode cX10_way 27 = .ok (.iload_n 3, 1) := by decide +kernel
theorem dX10_way_28 : decode cX10_way 28 = .ok (.invokevirtual 147, 3) := by decide +kernel
theorem dX10_way_31 : decode cX10_way 31 = .ok (.ireturn, 1) := by decide +kernel
theorem dX10_votes_0 : decode cX10_votes 0 = .ok (.aload_n 0, 1) := by decide +kernel
theorem dX10_votes_1 : decode cX10_votes 1 = .ok (.getfield 12, 3) := by decide +kernel
theorem dX10_votes_4 : decode cX10_votes 4 = .ok (.iload_n 1, 1) := by decide +kernel
theorem dX10_votes_5 : decode cX10_votes 5 = .ok (.invokevirtual 127, 3) := by decide +kernel
theorem dX10_votes_8 : decode cX10_votes 8 = .ok (.ifCond .eq 14, 3) := by decide +kernel
theorem dX10_votes_11 : decode cX10_votes 11 = .ok (.aload_n 0, 1) := by decide +kernel
theorem dX10_votes_12 : decode cX10_votes 12 = .ok (.getfield 12, 3) := by decide +kernel
theorem dX10_votes_15 : decode cX10_votes 15 = .ok (.iload_n 2, 1) := by decide +kernel
theorem dX10_votes_16 : decode cX10_votes 16 = .ok (.invokevirtual 127, 3) := by decide +kernel
theorem dX10_votes_19 : decode cX10_votes 19 = .ok (.ifCond .ne 5, 3) := by decide +kernel
theorem dX10_votes_22 : decode cX10_votes 22 = .ok (.iconst (-1), 1) := by decide +kernel
theorem dX10_votes_23 : decode cX10_votes 23 = .ok (.ireturn, 1) := by decide +kernel
theorem dX10_votes_24 : decode cX10_votes 24 = .ok (.aload_n 0, 1) := by decide +kernel
theorem dX10_votes_25 : decode cX10_votes 25 = .ok (.getfield 28, 3) := by decide +kernel
theorem dX10_votes_28 : decode cX10_votes 28 = .ok (.invokevirtual 151, 3) := by decide +kernel
theorem dX10_votes_31 : decode cX10_votes 31 = .ok (.aload_n 0, 1) := by decide +kernel
theorem dX10_votes_32 : decode cX10_votes 32 = .ok (.getfield 28, 3) := by decide +kernel
theorem dX10_votes_35 : decode cX10_votes 35 = .ok (.iload_n 1, 1) := by decide +kernel
theorem dX10_votes_36 : decode cX10_votes 36 = .ok (.iload_n 2, 1) := by decide +kernel
theorem dX10_votes_37 : decode cX10_votes 37 = .ok (.invokevirtual 154, 3) := by decide +kernel
theorem dX10_votes_40 : decode cX10_votes 40 = .ok (.ireturn, 1) := by decide +kernel
theorem dX10_beats_0 : decode cX10_beats 0 = .ok (.aload_n 0, 1) := by decide +kernel
theorem dX10_beats_1 : decode cX10_beats 1 = .ok (.getfield 12, 3) := by decide +kernel
theorem dX10_beats_4 : decode cX10_beats 4 = .ok (.iload_n 1, 1) := by decide +kernel
theorem dX10_beats_5 : decode cX10_beats 5 = .ok (.invokevirtual 127, 3) := by decide +kernel
theorem dX10_beats_8 : decode cX10_beats 8 = .ok (.ifCond .eq 14, 3) := by decide +kernel
theorem dX10_beats_11 : decode cX10_beats 11 = .ok (.aload_n 0, 1) := by decide +kernel
theorem dX10_beats_12 : decode cX10_beats 12 = .ok (.getfield 12, 3) := by decide +kernel
theorem dX10_beats_15 : decode cX10_beats 15 = .ok (.iload_n 2, 1) := by decide +kernel
theorem dX10_beats_16 : decode cX10_beats 16 = .ok (.invokevirtual 127, 3) := by decide +kernel
theorem dX10_beats_19 : decode cX10_beats 19 = .ok (.ifCond .ne 5, 3) := by decide +kernel
theorem dX10_beats_22 : decode cX10_beats 22 = .ok (.iconst 0, 1) := by decide +kernel
theorem dX10_beats_23 : decode cX10_beats 23 = .ok (.ireturn, 1) := by decide +kernel
theorem dX10_beats_24 : decode cX10_beats 24 = .ok (.aload_n 0, 1) := by decide +kernel
theorem dX10_beats_25 : decode cX10_beats 25 = .ok (.getfield 28, 3) := by decide +kernel
theorem dX10_beats_28 : decode cX10_beats 28 = .ok (.invokevirtual 151, 3) := by decide +kernel
theorem dX10_beats_31 : decode cX10_beats 31 = .ok (.aload_n 0, 1) := by decide +kernel
theorem dX10_beats_32 : decode cX10_beats 32 = .ok (.getfield 28, 3) := by decide +kernel
theorem dX10_beats_35 : decode cX10_beats 35 = .ok (.iload_n 2, 1) := by decide +kernel
theorem dX10_beats_36 : decode cX10_beats 36 = .ok (.iload_n 1, 1) := by decide +kernel
theorem dX10_beats_37 : decode cX10_beats 37 = .ok (.invokevirtual 158, 3) := by decide +kernel
theorem dX10_beats_40 : decode cX10_beats 40 = .ok (.ireturn, 1) := by decide +kernel
theorem dX10_wins_0 : decode cX10_wins 0 = .ok (.aload_n 0, 1) := by decide +kernel
theorem dX10_wins_1 : decode cX10_wins 1 = .ok (.getfield 12, 3) := by decide +kernel
theorem dX10_wins_4 : decode cX10_wins 4 = .ok (.getfield 101, 3) := by decide +kernel
theorem dX10_wins_7 : decode cX10_wins 7 = .ok (.ifCond .eq 25, 3) := by decide +kernel
theorem dX10_wins_10 : decode cX10_wins 10 = .ok (.iload_n 1, 1) := by decide +kernel
theorem dX10_wins_11 : decode cX10_wins 11 = .ok (.ifCond .lt 21, 3) := by decide +kernel
theorem dX10_wins_14 : decode cX10_wins 14 = .ok (.iload_n 1, 1) := by decide +kernel
theorem dX10_wins_15 : decode cX10_wins 15 = .ok (.sipush 10000, 3) := by decide +kernel
theorem dX10_wins_18 : decode cX10_wins 18 = .ok (.if_icmp .ge 14, 3) := by decide +kernel
theorem dX10_wins_21 : decode cX10_wins 21 = .ok (.iload_n 2, 1) := by decide +kernel
theorem dX10_wins_22 : decode cX10_wins 22 = .ok (.ifCond .lt 10, 3) := by decide +kernel
theorem dX10_wins_25 : decode cX10_wins 25 = .ok (.iload_n 2, 1) := by decide +kernel
theorem dX10_wins_26 : decode cX10_wins 26 = .ok (.sipush 10000, 3) := by decide +kernel
theorem dX10_wins_29 : decode cX10_wins 29 = .ok (.if_icmp .lt 5, 3) := by decide +kernel
theorem dX10_wins_32 : decode cX10_wins 32 = .ok (.iconst 0, 1) := by decide +kernel
theorem dX10_wins_33 : decode cX10_wins 33 = .ok (.ireturn, 1) := by decide +kernel
theorem dX10_wins_34 : decode cX10_wins 34 = .ok (.aload_n 0, 1) := by decide +kernel
theorem dX10_wins_35 : decode cX10_wins 35 = .ok (.getfield 12, 3) := by decide +kernel
theorem dX10_wins_38 : decode cX10_wins 38 = .ok (.iload_n 1, 1) := by decide +kernel
theorem dX10_wins_39 : decode cX10_wins 39 = .ok (.iload_n 2, 1) := by decide +kernel
theorem dX10_wins_40 : decode cX10_wins 40 = .ok (.invokevirtual 161, 3) := by decide +kernel
theorem dX10_wins_43 : decode cX10_wins 43 = .ok (.istore_n 3, 1) := by decide +kernel
theorem dX10_wins_44 : decode cX10_wins 44 = .ok (.aload_n 0, 1) := by decide +kernel
theorem dX10_wins_45 : decode cX10_wins 45 = .ok (.getfield 12, 3) := by decide +kernel
theorem dX10_wins_48 : decode cX10_wins 48 = .ok (.iload_n 2, 1) := by decide +kernel
theorem dX10_wins_49 : decode cX10_wins 49 = .ok (.iload_n 1, 1) := by decide +kernel
theorem dX10_wins_50 : decode cX10_wins 50 = .ok (.invokevirtual 161, 3) := by decide +kernel
theorem dX10_wins_53 : decode cX10_wins 53 = .ok (.istore 4, 2) := by decide +kernel
theorem dX10_wins_55 : decode cX10_wins 55 = .ok (.aload_n 0, 1) := by decide +kernel
theorem dX10_wins_56 : decode cX10_wins 56 = .ok (.getfield 12, 3) := by decide +kernel
theorem dX10_wins_59 : decode cX10_wins 59 = .ok (.iload_n 3, 1) := by decide +kernel
theorem dX10_wins_60 : decode cX10_wins 60 = .ok (.iload 4, 2) := by decide +kernel
theorem dX10_wins_62 : decode cX10_wins 62 = .ok (.invokevirtual 164, 3) := by decide +kernel
theorem dX10_wins_65 : decode cX10_wins 65 = .ok (.ireturn, 1) := by decide +kernel
theorem dX10_line_0 : decode cX10_line 0 = .ok (.aload_n 0, 1) := by decide +kernel
theorem dX10_line_1 : decode cX10_line 1 = .ok (.getfield 35, 3) := by decide +kernel
theorem dX10_line_4 : decode cX10_line 4 = .ok (.invokevirtual 167, 3) := by decide +kernel
theorem dX10_line_7 : decode cX10_line 7 = .ok (.iload_n 1, 1) := by decide +kernel
theorem dX10_line_8 : decode cX10_line 8 = .ok (.iconst (-1), 1) := by decide +kernel
theorem dX10_line_9 : decode cX10_line 9 = .ok (.if_icmp .ne 11, 3) := by decide +kernel
theorem dX10_line_12 : decode cX10_line 12 = .ok (.aload_n 0, 1) := by decide +kernel
theorem dX10_line_13 : decode cX10_line 13 = .ok (.getfield 35, 3) := by decide +kernel
theorem dX10_line_16 : decode cX10_line 16 = .ok (.getfield 168, 3) := by decide +kernel
theorem dX10_line_19 : decode cX10_line 19 = .ok (.ireturn, 1) := by decide +kernel
theorem dX10_line_20 : decode cX10_line 20 = .ok (.iload_n 1, 1) := by decide +kernel
theorem dX10_line_21 : decode cX10_line 21 = .ok (.ifCond .lt 14, 3) := by decide +kernel
theorem dX10_line_24 : decode cX10_line 24 = .ok (.iload_n 1, 1) := by decide +kernel
theorem dX10_line_25 : decode cX10_line 25 = .ok (.aload_n 0, 1) := by decide +kernel
theorem dX10_line_26 : decode cX10_line 26 = .ok (.getfield 35, 3) := by decide +kernel
theorem dX10_line_29 : decode cX10_line 29 = .ok (.getfield 168, 3) := by decide +kernel
theorem dX10_line_32 : decode cX10_line 32 = .ok (.if_icmp .lt 6, 3) := by decide +kernel
theorem dX10_line_35 : decode cX10_line 35 = .ok (.ldc 169, 2) := by decide +kernel
theorem dX10_line_37 : decode cX10_line 37 = .ok (.ireturn, 1) := by decide +kernel
theorem dX10_line_38 : decode cX10_line 38 = .ok (.iload_n 2, 1) := by decide +kernel
theorem dX10_line_39 : decode cX10_line 39 = .ok (.tableswitch 55 0 2 #[25, 35, 45], 25) := by decide +kernel
theorem dX10_line_64 : decode cX10_line 64 = .ok (.aload_n 0, 1) := by decide +kernel
theorem dX10_line_65 : decode cX10_line 65 = .ok (.getfield 35, 3) := by decide +kernel
theorem dX10_line_68 : decode cX10_line 68 = .ok (.getfield 170, 3) := by decide +kernel
theorem dX10_line_71 : decode cX10_line 71 = .ok (.iload_n 1, 1) := by decide +kernel
theorem dX10_line_72 : decode cX10_line 72 = .ok (.iaload, 1) := by decide +kernel
theorem dX10_line_73 : decode cX10_line 73 = .ok (.ireturn, 1) := by decide +kernel
theorem dX10_line_74 : decode cX10_line 74 = .ok (.aload_n 0, 1) := by decide +kernel
theorem dX10_line_75 : decode cX10_line 75 = .ok (.getfield 35, 3) := by decide +kernel
theorem dX10_line_78 : decode cX10_line 78 = .ok (.getfield 173, 3) := by decide +kernel
theorem dX10_line_81 : decode cX10_line 81 = .ok (.iload_n 1, 1) := by decide +kernel
theorem dX10_line_82 : decode cX10_line 82 = .ok (.iaload, 1) := by decide +kernel
theorem dX10_line_83 : decode cX10_line 83 = .ok (.ireturn, 1) := by decide +kernel
theorem dX10_line_84 : decode cX10_line 84 = .ok (.aload_n 0, 1) := by decide +kernel
theorem dX10_line_85 : decode cX10_line 85 = .ok (.getfield 35, 3) := by decide +kernel
theorem dX10_line_88 : decode cX10_line 88 = .ok (.getfield 176, 3) := by decide +kernel
theorem dX10_line_91 : decode cX10_line 91 = .ok (.iload_n 1, 1) := by decide +kernel
theorem dX10_line_92 : decode cX10_line 92 = .ok (.iaload, 1) := by decide +kernel
theorem dX10_line_93 : decode cX10_line 93 = .ok (.ireturn, 1) := by decide +kernel
theorem dX10_line_94 : decode cX10_line 94 = .ok (.ldc 169, 2) := by decide +kernel
theorem dX10_line_96 : decode cX10_line 96 = .ok (.ireturn, 1) := by decide +kernel
theorem dX10_middle_0 : decode cX10_middle 0 = .ok (.aload_n 0, 1) := by decide +kernel
theorem dX10_middle_1 : decode cX10_middle 1 = .ok (.getfield 44, 3) := by decide +kernel
theorem dX10_middle_4 : decode cX10_middle 4 = .ok (.invokevirtual 179, 3) := by decide +kernel
theorem dX10_middle_7 : decode cX10_middle 7 = .ok (.iload_n 1, 1) := by decide +kernel
theorem dX10_middle_8 : decode cX10_middle 8 = .ok (.iconst (-1), 1) := by decide +kernel
theorem dX10_middle_9 : decode cX10_middle 9 = .ok (.if_icmp .ne 11, 3) := by decide +kernel
theorem dX10_middle_12 : decode cX10_middle 12 = .ok (.aload_n 0, 1) := by decide +kernel
theorem dX10_middle_13 : decode cX10_middle 13 = .ok (.getfield 44, 3) := by decide +kernel
theorem dX10_middle_16 : decode cX10_middle 16 = .ok (.getfield 180, 3) := by decide +kernel
theorem dX10_middle_19 : decode cX10_middle 19 = .ok (.ireturn, 1) := by decide +kernel
theorem dX10_middle_20 : decode cX10_middle 20 = .ok (.iload_n 1, 1) := by decide +kernel
theorem dX10_middle_21 : decode cX10_middle 21 = .ok (.ifCond .lt 14, 3) := by decide +kernel
theorem dX10_middle_24 : decode cX10_middle 24 = .ok (.iload_n 1, 1) := by decide +kernel
theorem dX10_middle_25 : decode cX10_middle 25 = .ok (.aload_n 0, 1) := by decide +kernel
theorem dX10_middle_26 : decode cX10_middle 26 = .ok (.getfield 44, 3) := by decide +kernel
theorem dX10_middle_29 : decode cX10_middle 29 = .ok (.getfield 180, 3) := by decide +kernel
theorem dX10_middle_32 : decode cX10_middle 32 = .ok (.if_icmp .lt 6, 3) := by decide +kernel
theorem dX10_middle_35 : decode cX10_middle 35 = .ok (.ldc 169, 2) := by decide +kernel
theorem dX10_middle_37 : decode cX10_middle 37 = .ok (.ireturn, 1) := by decide +kernel
theorem dX10_middle_38 : decode cX10_middle 38 = .ok (.iload_n 2, 1) := by decide +kernel
theorem dX10_middle_39 : decode cX10_middle 39 = .ok (.tableswitch 58 0 2 #[25, 36, 47], 25) := by decide +kernel
theorem dX10_middle_64 : decode cX10_middle 64 = .ok (.aload_n 0, 1) := by decide +kernel
theorem dX10_middle_65 : decode cX10_middle 65 = .ok (.getfield 44, 3) := by decide +kernel
theorem dX10_middle_68 : decode cX10_middle 68 = .ok (.getfield 181, 3) := by decide +kernel
theorem dX10_middle_71 : decode cX10_middle 71 = .ok (.iload_n 1, 1) := by decide +kernel
theorem dX10_middle_72 : decode cX10_middle 72 = .ok (.laload, 1) := by decide +kernel
theorem dX10_middle_73 : decode cX10_middle 73 = .ok (.l2i, 1) := by decide +kernel
theorem dX10_middle_74 : decode cX10_middle 74 = .ok (.ireturn, 1) := by decide +kernel
theorem dX10_middle_75 : decode cX10_middle 75 = .ok (.aload_n 0, 1) := by decide +kernel
theorem dX10_middle_76 : decode cX10_middle 76 = .ok (.getfield 44, 3) := by decide +kernel
theorem dX10_middle_79 : decode cX10_middle 79 = .ok (.getfield 184, 3) := by decide +kernel
theorem dX10_middle_82 : decode cX10_middle 82 = .ok (.iload_n 1, 1) := by decide +kernel
theorem dX10_middle_83 : decode cX10_middle 83 = .ok (.laload, 1) := by decide +kernel
theorem dX10_middle_84 : decode cX10_middle 84 = .ok (.l2i, 1) := by decide +kernel
theorem dX10_middle_85 : decode cX10_middle 85 = .ok (.ireturn, 1) := by decide +kernel
theorem dX10_middle_86 : decode cX10_middle 86 = .ok (.aload_n 0, 1) := by decide +kernel
theorem dX10_middle_87 : decode cX10_middle 87 = .ok (.getfield 44, 3) := by decide +kernel
theorem dX10_middle_90 : decode cX10_middle 90 = .ok (.getfield 186, 3) := by decide +kernel
theorem dX10_middle_93 : decode cX10_middle 93 = .ok (.iload_n 1, 1) := by decide +kernel
theorem dX10_middle_94 : decode cX10_middle 94 = .ok (.laload, 1) := by decide +kernel
theorem dX10_middle_95 : decode cX10_middle 95 = .ok (.l2i, 1) := by decide +kernel
theorem dX10_middle_96 : decode cX10_middle 96 = .ok (.ireturn, 1) := by decide +kernel
theorem dX10_middle_97 : decode cX10_middle 97 = .ok (.ldc 169, 2) := by decide +kernel
theorem dX10_middle_99 : decode cX10_middle 99 = .ok (.ireturn, 1) := by decide +kernel
theorem dX10_proof_0 : decode cX10_proof 0 = .ok (.iload_n 1, 1) := by decide +kernel
theorem dX10_proof_1 : decode cX10_proof 1 = .ok (.ifCond .lt 8, 3) := by decide +kernel
theorem dX10_proof_4 : decode cX10_proof 4 = .ok (.iload_n 1, 1) := by decide +kernel
theorem dX10_proof_5 : decode cX10_proof 5 = .ok (.iconst 2, 1) := by decide +kernel
theorem dX10_proof_6 : decode cX10_proof 6 = .ok (.if_icmp .le 5, 3) := by decide +kernel
theorem dX10_proof_9 : decode cX10_proof 9 = .ok (.iconst (-1), 1) := by decide +kernel
theorem dX10_proof_10 : decode cX10_proof 10 = .ok (.ireturn, 1) := by decide +kernel
theorem dX10_proof_11 : decode cX10_proof 11 = .ok (.aload_n 0, 1) := by decide +kernel
theorem dX10_proof_12 : decode cX10_proof 12 = .ok (.getfield 44, 3) := by decide +kernel
theorem dX10_proof_15 : decode cX10_proof 15 = .ok (.invokevirtual 179, 3) := by decide +kernel
theorem dX10_proof_18 : decode cX10_proof 18 = .ok (.aload_n 0, 1) := by decide +kernel
theorem dX10_proof_19 : decode cX10_proof 19 = .ok (.getfield 44, 3) := by decide +kernel
theorem dX10_proof_22 : decode cX10_proof 22 = .ok (.getfield 189, 3) := by decide +kernel
theorem dX10_proof_25 : decode cX10_proof 25 = .ok (.iload_n 1, 1) := by decide +kernel
theorem dX10_proof_26 : decode cX10_proof 26 = .ok (.iaload, 1) := by decide +kernel
theorem dX10_proof_27 : decode cX10_proof 27 = .ok (.ireturn, 1) := by decide +kernel
theorem dX10_round_0 : decode cX10_round 0 = .ok (.aload_n 0, 1) := by decide +kernel
theorem dX10_round_1 : decode cX10_round 1 = .ok (.getfield 12, 3) := by decide +kernel
theorem dX10_round_4 : decode cX10_round 4 = .ok (.getfield 101, 3) := by decide +kernel
theorem dX10_round_7 : decode cX10_round 7 = .ok (.ifCond .eq 12, 3) := by decide +kernel
theorem dX10_round_10 : decode cX10_round 10 = .ok (.iload_n 1, 1) := by decide +kernel
theorem dX10_round_11 : decode cX10_round 11 = .ok (.ifCond .lt 8, 3) := by decide +kernel
theorem dX10_round_14 : decode cX10_round 14 = .ok (.iload_n 1, 1) := by decide +kernel
theorem dX10_round_15 : decode cX10_round 15 = .ok (.iconst 3, 1) := by decide +kernel
theorem dX10_round_16 : decode cX10_round 16 = .ok (.if_icmp .le 5, 3) := by decide +kernel
theorem dX10_round_19 : decode cX10_round 19 = .ok (.iconst (-1), 1) := by decide +kernel
theorem dX10_round_20 : decode cX10_round 20 = .ok (.ireturn, 1) := by decide +kernel
theorem dX10_round_21 : decode cX10_round 21 = .ok (.aload_n 0, 1) := by decide +kernel
theorem dX10_round_22 : decode cX10_round 22 = .ok (.getfield 53, 3) := by decide +kernel
theorem dX10_round_25 : decode cX10_round 25 = .ok (.invokevirtual 192, 3) := by decide +kernel
theorem dX10_round_28 : decode cX10_round 28 = .ok (.iload_n 1, 1) := by decide +kernel
theorem dX10_round_29 : decode cX10_round 29 = .ok (.tableswitch 52 0 2 #[27, 35, 43], 27) := by decide +kernel
theorem dX10_round_56 : decode cX10_round 56 = .ok (.aload_n 0, 1) := by decide +kernel
theorem dX10_round_57 : decode cX10_round 57 = .ok (.getfield 53, 3) := by decide +kernel
theorem dX10_round_60 : decode cX10_round 60 = .ok (.getfield 193, 3) := by decide +kernel
theorem dX10_round_63 : decode cX10_round 63 = .ok (.ireturn, 1) := by decide +kernel
theorem dX10_round_64 : decode cX10_round 64 = .ok (.aload_n 0, 1) := by decide +kernel
theorem dX10_round_65 : decode cX10_round 65 = .ok (.getfield 53, 3) := by decide +kernel
theorem dX10_round_68 : decode cX10_round 68 = .ok (.getfield 195, 3) := by decide +kernel
theorem dX10_round_71 : decode cX10_round 71 = .ok (.ireturn, 1) := by decide +kernel
theorem dX10_round_72 : decode cX10_round 72 = .ok (.aload_n 0, 1) := by decide +kernel
theorem dX10_round_73 : decode cX10_round 73 = .ok (.getfield 53, 3) := by decide +kernel
theorem dX10_round_76 : decode cX10_round 76 = .ok (.getfield 197, 3) := by decide +kernel
theorem dX10_round_79 : decode cX10_round 79 = .ok (.l2i, 1) := by decide +kernel
theorem dX10_round_80 : decode cX10_round 80 = .ok (.ireturn, 1) := by decide +kernel
theorem dX10_round_81 : decode cX10_round 81 = .ok (.aload_n 0, 1) := by decide +kernel
theorem dX10_round_82 : decode cX10_round 82 = .ok (.getfield 53, 3) := by decide +kernel
theorem dX10_round_85 : decode cX10_round 85 = .ok (.getfield 201, 3) := by decide +kernel
theorem dX10_round_88 : decode cX10_round 88 = .ok (.l2i, 1) := by decide +kernel
theorem dX10_round_89 : decode cX10_round 89 = .ok (.ireturn, 1) := by decide +kernel
theorem dX10_winSet_0 : decode cX10_winSet 0 = .ok (.aload_n 0, 1) := by decide +kernel
theorem dX10_winSet_1 : decode cX10_winSet 1 = .ok (.getfield 12, 3) := by decide +kernel
theorem dX10_winSet_4 : decode cX10_winSet 4 = .ok (.getfield 101, 3) := by decide +kernel
theorem dX10_winSet_7 : decode cX10_winSet 7 = .ok (.ifCond .eq 20, 3) := by decide +kernel
theorem dX10_winSet_10 : decode cX10_winSet 10 = .ok (.iload_n 1, 1) := by decide +kernel
theorem dX10_winSet_11 : decode cX10_winSet 11 = .ok (.iload_n 2, 1) := by decide +kernel
theorem dX10_winSet_12 : decode cX10_winSet 12 = .ok (.invokestatic 136, 3) := by decide +kernel
theorem dX10_winSet_15 : decode cX10_winSet 15 = .ok (.ifCond .eq 12, 3) := by decide +kernel
theorem dX10_winSet_18 : decode cX10_winSet 18 = .ok (.iload_n 3, 1) := by decide +kernel
theorem dX10_winSet_19 : decode cX10_winSet 19 = .ok (.ifCond .lt 8, 3) := by decide +kernel
theorem dX10_winSet_22 : decode cX10_winSet 22 = .ok (.iload_n 3, 1) := by decide +kernel
theorem dX10_winSet_23 : decode cX10_winSet 23 = .ok (.iconst 1, 1) := by decide +kernel
theorem dX10_winSet_24 : decode cX10_winSet 24 = .ok (.if_icmp .le 5, 3) := by decide +kernel
theorem dX10_winSet_27 : decode cX10_winSet 27 = .ok (.iconst (-1), 1) := by decide +kernel
theorem dX10_winSet_28 : decode cX10_winSet 28 = .ok (.ireturn, 1) := by decide +kernel
theorem dX10_winSet_29 : decode cX10_winSet 29 = .ok (.aload_n 0, 1) := by decide +kernel
theorem dX10_winSet_30 : decode cX10_winSet 30 = .ok (.iload_n 1, 1) := by decide +kernel
theorem dX10_winSet_31 : decode cX10_winSet 31 = .ok (.iload_n 2, 1) := by decide +kernel
theorem dX10_winSet_32 : decode cX10_winSet 32 = .ok (.invokevirtual 204, 3) := by decide +kernel
theorem dX10_winSet_35 : decode cX10_winSet 35 = .ok (.astore 4, 2) := by decide +kernel
theorem dX10_winSet_37 : decode cX10_winSet 37 = .ok (.iload_n 3, 1) := by decide +kernel
theorem dX10_winSet_38 : decode cX10_winSet 38 = .ok (.ifCond .ne 9, 3) := by decide +kernel
theorem dX10_winSet_41 : decode cX10_winSet 41 = .ok (.aload 4, 2) := by decide +kernel
theorem dX10_winSet_43 : decode cX10_winSet 43 = .ok (.getfield 208, 3) := by decide +kernel
theorem dX10_winSet_46 : decode cX10_winSet 46 = .ok (.ireturn, 1) := by decide +kernel
theorem dX10_winSet_47 : decode cX10_winSet 47 = .ok (.aload 4, 2) := by decide +kernel
theorem dX10_winSet_49 : decode cX10_winSet 49 = .ok (.invokevirtual 213, 3) := by decide +kernel
theorem dX10_winSet_52 : decode cX10_winSet 52 = .ok (.aload 4, 2) := by decide +kernel
theorem dX10_winSet_54 : decode cX10_winSet 54 = .ok (.getfield 216, 3) := by decide +kernel
theorem dX10_winSet_57 : decode cX10_winSet 57 = .ok (.ireturn, 1) := by decide +kernel
theorem dX10_piece_0 : decode cX10_piece 0 = .ok (.aload_n 0, 1) := by decide +kernel
theorem dX10_piece_1 : decode cX10_piece 1 = .ok (.getfield 12, 3) := by decide +kernel
theorem dX10_piece_4 : decode cX10_piece 4 = .ok (.getfield 101, 3) := by decide +kernel
theorem dX10_piece_7 : decode cX10_piece 7 = .ok (.ifCond .eq 26, 3) := by decide +kernel
theorem dX10_piece_10 : decode cX10_piece 10 = .ok (.iload_n 1, 1) := by decide +kernel
theorem dX10_piece_11 : decode cX10_piece 11 = .ok (.iload_n 2, 1) := by decide +kernel
theorem dX10_piece_12 : decode cX10_piece 12 = .ok (.invokestatic 136, 3) := by decide +kernel
theorem dX10_piece_15 : decode cX10_piece 15 = .ok (.ifCond .eq 18, 3) := by decide +kernel
theorem dX10_piece_18 : decode cX10_piece 18 = .ok (.iload 4, 2) := by decide +kernel
theorem dX10_piece_20 : decode cX10_piece 20 = .ok (.ifCond .lt 13, 3) := by decide +kernel
theorem dX10_piece_23 : decode cX10_piece 23 = .ok (.iload 4, 2) := by decide +kernel
theorem dX10_piece_25 : decode cX10_piece 25 = .ok (.iconst 2, 1) := by decide +kernel
theorem dX10_piece_26 : decode cX10_piece 26 = .ok (.if_icmp .gt 7, 3) := by decide +kernel
theorem dX10_piece_29 : decode cX10_piece 29 = .ok (.iload_n 3, 1) := by decide +kernel
theorem dX10_piece_30 : decode cX10_piece 30 = .ok (.ifCond .ge 5, 3) := by decide +kernel
theorem dX10_piece_33 : decode cX10_piece 33 = .ok (.iconst (-1), 1) := by decide +kernel
theorem dX10_piece_34 : decode cX10_piece 34 = .ok (.ireturn, 1) := by decide +kernel
theorem dX10_piece_35 : decode cX10_piece 35 = .ok (.aload_n 0, 1) := by decide +kernel
theorem dX10_piece_36 : decode cX10_piece 36 = .ok (.iload_n 1, 1) := by decide +kernel
theorem dX10_piece_37 : decode cX10_piece 37 = .ok (.iload_n 2, 1) := by decide +kernel
theorem dX10_piece_38 : decode cX10_piece 38 = .ok (.invokevirtual 204, 3) := by decide +kernel
theorem dX10_piece_41 : decode cX10_piece 41 = .ok (.astore 5, 2) := by decide +kernel
theorem dX10_piece_43 : decode cX10_piece 43 = .ok (.aload 5, 2) := by decide +kernel
theorem dX10_piece_45 : decode cX10_piece 45 = .ok (.invokevirtual 213, 3) := by decide +kernel
theorem dX10_piece_48 : decode cX10_piece 48 = .ok (.iload_n 3, 1) := by decide +kernel
theorem dX10_piece_49 : decode cX10_piece 49 = .ok (.aload 5, 2) := by decide +kernel
theorem dX10_piece_51 : decode cX10_piece 51 = .ok (.getfield 216, 3) := by decide +kernel
theorem dX10_piece_54 : decode cX10_piece 54 = .ok (.if_icmp .lt 5, 3) := by decide +kernel
theorem dX10_piece_57 : decode cX10_piece 57 = .ok (.iconst (-1), 1) := by decide +kernel
theorem dX10_piece_58 : decode cX10_piece 58 = .ok (.ireturn, 1) := by decide +kernel
theorem dX10_piece_59 : decode cX10_piece 59 = .ok (.iload 4, 2) := by decide +kernel
theorem dX10_piece_61 : decode cX10_piece 61 = .ok (.iconst 2, 1) := by decide +kernel
theorem dX10_piece_62 : decode cX10_piece 62 = .ok (.if_icmp .ne 10, 3) := by decide +kernel
theorem dX10_piece_65 : decode cX10_piece 65 = .ok (.aload 5, 2) := by decide +kernel
theorem dX10_piece_67 : decode cX10_piece 67 = .ok (.iload_n 3, 1) := by decide +kernel
theorem dX10_piece_68 : decode cX10_piece 68 = .ok (.invokevirtual 219, 3) := by decide +kernel
theorem dX10_piece_71 : decode cX10_piece 71 = .ok (.ireturn, 1) := by decide +kernel
theorem dX10_piece_72 : decode cX10_piece 72 = .ok (.aload 5, 2) := by decide +kernel
theorem dX10_piece_74 : decode cX10_piece 74 = .ok (.iload_n 3, 1) := by decide +kernel
theorem dX10_piece_75 : decode cX10_piece 75 = .ok (.invokevirtual 223, 3) := by decide +kernel
theorem dX10_piece_78 : decode cX10_piece 78 = .ok (.istore 6, 2) := by decide +kernel
theorem dX10_piece_80 : decode cX10_piece 80 = .ok (.iload 4, 2) := by decide +kernel
theorem dX10_piece_82 : decode cX10_piece 82 = .ok (.ifCond .ne 11, 3) := by decide +kernel
theorem dX10_piece_85 : decode cX10_piece 85 = .ok (.iload 6, 2) := by decide +kernel
theorem dX10_piece_87 : decode cX10_piece 87 = .ok (.bipush 100, 2) := by decide +kernel
theorem dX10_piece_89 : decode cX10_piece 89 = .ok (.idiv, 1) := by decide +kernel
theorem dX10_piece_90 : decode cX10_piece 90 = .ok (.goto 8, 3) := by decide +kernel
theorem dX10_piece_93 : decode cX10_piece 93 = .ok (.iload 6, 2) := by decide +kernel
theorem dX10_piece_95 : decode cX10_piece 95 = .ok (.bipush 100, 2) := by decide +kernel
theorem dX10_piece_97 : decode cX10_piece 97 = .ok (.irem, 1) := by decide +kernel
theorem dX10_piece_98 : decode cX10_piece 98 = .ok (.ireturn, 1) := by decide +kernel
theorem dX10_led_0 : decode cX10_led 0 = .ok (.aload_n 0, 1) := by decide +kernel
theorem dX10_led_1 : decode cX10_led 1 = .ok (.getfield 12, 3) := by decide +kernel
theorem dX10_led_4 : decode cX10_led 4 = .ok (.iload_n 1, 1) := by decide +kernel
theorem dX10_led_5 : decode cX10_led 5 = .ok (.invokevirtual 127, 3) := by decide +kernel
theorem dX10_led_8 : decode cX10_led 8 = .ok (.ifCond .eq 19, 3) := by decide +kernel
theorem dX10_led_11 : decode cX10_led 11 = .ok (.aload_n 0, 1) := by decide +kernel
theorem dX10_led_12 : decode cX10_led 12 = .ok (.getfield 12, 3) := by decide +kernel
theorem dX10_led_15 : decode cX10_led 15 = .ok (.iload_n 2, 1) := by decide +kernel
theorem dX10_led_16 : decode cX10_led 16 = .ok (.invokevirtual 127, 3) := by decide +kernel
theorem dX10_led_19 : decode cX10_led 19 = .ok (.ifCond .eq 8, 3) := by decide +kernel
theorem dX10_led_22 : decode cX10_led 22 = .ok (.iload_n 3, 1) := by decide +kernel
theorem dX10_led_23 : decode cX10_led 23 = .ok (.iconst (-1), 1) := by decide +kernel
theorem dX10_led_24 : decode cX10_led 24 = .ok (.if_icmp .ge 5, 3) := by decide +kernel
theorem dX10_led_27 : decode cX10_led 27 = .ok (.iconst (-1), 1) := by decide +kernel
theorem dX10_led_28 : decode cX10_led 28 = .ok (.ireturn, 1) := by decide +kernel
theorem dX10_led_29 : decode cX10_led 29 = .ok (.aload_n 0, 1) := by decide +kernel
theorem dX10_led_30 : decode cX10_led 30 = .ok (.getfield 28, 3) := by decide +kernel
theorem dX10_led_33 : decode cX10_led 33 = .ok (.invokevirtual 151, 3) := by decide +kernel
theorem dX10_led_36 : decode cX10_led 36 = .ok (.aload_n 0, 1) := by decide +kernel
theorem dX10_led_37 : decode cX10_led 37 = .ok (.getfield 28, 3) := by decide +kernel
theorem dX10_led_40 : decode cX10_led 40 = .ok (.iload_n 2, 1) := by decide +kernel
theorem dX10_led_41 : decode cX10_led 41 = .ok (.invokevirtual 226, 3) := by decide +kernel
theorem dX10_led_44 : decode cX10_led 44 = .ok (.pop, 1) := by decide +kernel
theorem dX10_led_45 : decode cX10_led 45 = .ok (.aload_n 0, 1) := by decide +kernel
theorem dX10_led_46 : decode cX10_led 46 = .ok (.getfield 28, 3) := by decide +kernel
theorem dX10_led_49 : decode cX10_led 49 = .ok (.getfield 229, 3) := by decide +kernel
theorem dX10_led_52 : decode cX10_led 52 = .ok (.iload_n 1, 1) := by decide +kernel
theorem dX10_led_53 : decode cX10_led 53 = .ok (.iaload, 1) := by decide +kernel
theorem dX10_led_54 : decode cX10_led 54 = .ok (.istore 4, 2) := by decide +kernel
theorem dX10_led_56 : decode cX10_led 56 = .ok (.iload 4, 2) := by decide +kernel
theorem dX10_led_58 : decode cX10_led 58 = .ok (.iconst (-1), 1) := by decide +kernel
theorem dX10_led_59 : decode cX10_led 59 = .ok (.if_icmp .eq 8, 3) := by decide +kernel
theorem dX10_led_62 : decode cX10_led 62 = .ok (.iload_n 3, 1) := by decide +kernel
theorem dX10_led_63 : decode cX10_led 63 = .ok (.iconst (-1), 1) := by decide +kernel
theorem dX10_led_64 : decode cX10_led 64 = .ok (.if_icmp .ne 6, 3) := by decide +kernel
theorem dX10_led_67 : decode cX10_led 67 = .ok (.iload 4, 2) := by decide +kernel
theorem dX10_led_69 : decode cX10_led 69 = .ok (.ireturn, 1) := by decide +kernel
theorem dX10_led_70 : decode cX10_led 70 = .ok (.iload_n 3, 1) := by decide +kernel
theorem dX10_led_71 : decode cX10_led 71 = .ok (.iload 4, 2) := by decide +kernel
theorem dX10_led_73 : decode cX10_led 73 = .ok (.if_icmp .le 7, 3) := by decide +kernel
theorem dX10_led_76 : decode cX10_led 76 = .ok (.iconst (-1), 1) := by decide +kernel
theorem dX10_led_77 : decode cX10_led 77 = .ok (.goto 12, 3) := by decide +kernel
theorem dX10_led_80 : decode cX10_led 80 = .ok (.aload_n 0, 1) := by decide +kernel
theorem dX10_led_81 : decode cX10_led 81 = .ok (.getfield 28, 3) := by decide +kernel
theorem dX10_led_84 : decode cX10_led 84 = .ok (.iload_n 1, 1) := by decide +kernel
theorem dX10_led_85 : decode cX10_led 85 = .ok (.iload_n 3, 1) := by decide +kernel
theorem dX10_led_86 : decode cX10_led 86 = .ok (.invokevirtual 232, 3) := by decide +kernel
theorem dX10_led_89 : decode cX10_led 89 = .ok (.ireturn, 1) := by decide +kernel
theorem dX10_best_0 : decode cX10_best 0 = .ok (.aload_n 0, 1) := by decide +kernel
theorem dX10_best_1 : decode cX10_best 1 = .ok (.getfield 12, 3) := by decide +kernel
theorem dX10_best_4 : decode cX10_best 4 = .ok (.getfield 101, 3) := by decide +kernel
theorem dX10_best_7 : decode cX10_best 7 = .ok (.ifCond .eq 12, 3) := by decide +kernel
theorem dX10_best_10 : decode cX10_best 10 = .ok (.iload_n 1, 1) := by decide +kernel
theorem dX10_best_11 : decode cX10_best 11 = .ok (.ifCond .lt 8, 3) := by decide +kernel
theorem dX10_best_14 : decode cX10_best 14 = .ok (.iload_n 1, 1) := by decide +kernel
theorem dX10_best_15 : decode cX10_best 15 = .ok (.iconst 1, 1) := by decide +kernel
theorem dX10_best_16 : decode cX10_best 16 = .ok (.if_icmp .le 5, 3) := by decide +kernel
theorem dX10_best_19 : decode cX10_best 19 = .ok (.iconst (-1), 1) := by decide +kernel
theorem dX10_best_20 : decode cX10_best 20 = .ok (.ireturn, 1) := by decide +kernel
theorem dX10_best_21 : decode cX10_best 21 = .ok (.aload_n 0, 1) := by decide +kernel
theorem dX10_best_22 : decode cX10_best 22 = .ok (.getfield 28, 3) := by decide +kernel
theorem dX10_best_25 : decode cX10_best 25 = .ok (.invokevirtual 151, 3) := by decide +kernel
theorem dX10_best_28 : decode cX10_best 28 = .ok (.iload_n 1, 1) := by decide +kernel
theorem dX10_best_29 : decode cX10_best 29 = .ok (.ifCond .ne 13, 3) := by decide +kernel
theorem dX10_best_32 : decode cX10_best 32 = .ok (.aload_n 0, 1) := by decide +kernel
theorem dX10_best_33 : decode cX10_best 33 = .ok (.getfield 28, 3) := by decide +kernel
theorem dX10_best_36 : decode cX10_best 36 = .ok (.invokevirtual 235, 3) := by decide +kernel
theorem dX10_best_39 : decode cX10_best 39 = .ok (.goto 10, 3) := by decide +kernel
theorem dX10_best_42 : decode cX10_best 42 = .ok (.aload_n 0, 1) := by decide +kernel
theorem dX10_best_43 : decode cX10_best 43 = .ok (.getfield 28, 3) := by decide +kernel
theorem dX10_best_46 : decode cX10_best 46 = .ok (.invokevirtual 238, 3) := by decide +kernel
theorem dX10_best_49 : decode cX10_best 49 = .ok (.ireturn, 1) := by decide +kernel
theorem dX10_between_0 : decode cX10_between 0 = .ok (.aload_n 0, 1) := by decide +kernel
theorem dX10_between_1 : decode cX10_between 1 = .ok (.getfield 12, 3) := by decide +kernel
theorem dX10_between_4 : decode cX10_between 4 = .ok (.iload_n 1, 1) := by decide +kernel
theorem dX10_between_5 : decode cX10_between 5 = .ok (.invokevirtual 127, 3) := by decide +kernel
theorem dX10_between_8 : decode cX10_between 8 = .ok (.ifCond .eq 14, 3) := by decide +kernel
theorem dX10_between_11 : decode cX10_between 11 = .ok (.aload_n 0, 1) := by decide +kernel
theorem dX10_between_12 : decode cX10_between 12 = .ok (.getfield 12, 3) := by decide +kernel
theorem dX10_between_15 : decode cX10_between 15 = .ok (.iload_n 2, 1) := by decide +kernel
theorem dX10_between_16 : decode cX10_between 16 = .ok (.invokevirtual 127, 3) := by decide +kernel
theorem dX10_between_19 : decode cX10_between 19 = .ok (.ifCond .ne 5, 3) := by decide +kernel
theorem dX10_between_22 : decode cX10_between 22 = .ok (.iconst (-1), 1) := by decide +kernel
theorem dX10_between_23 : decode cX10_between 23 = .ok (.ireturn, 1) := by decide +kernel
theorem dX10_between_24 : decode cX10_between 24 = .ok (.aload_n 0, 1) := by decide +kernel
theorem dX10_between_25 : decode cX10_between 25 = .ok (.aload_n 0, 1) := by decide +kernel
theorem dX10_between_26 : decode cX10_between 26 = .ok (.getfield 12, 3) := by decide +kernel
theorem dX10_between_29 : decode cX10_between 29 = .ok (.getfield 130, 3) := by decide +kernel
theorem dX10_between_32 : decode cX10_between 32 = .ok (.iload_n 1, 1) := by decide +kernel
theorem dX10_between_33 : decode cX10_between 33 = .ok (.iaload, 1) := by decide +kernel
theorem dX10_between_34 : decode cX10_between 34 = .ok (.aload_n 0, 1) := by decide +kernel
theorem dX10_between_35 : decode cX10_between 35 = .ok (.getfield 12, 3) := by decide +kernel
theorem dX10_between_38 : decode cX10_between 38 = .ok (.getfield 133, 3) := by decide +kernel
theorem dX10_between_41 : decode cX10_between 41 = .ok (.iload_n 1, 1) := by decide +kernel
theorem dX10_between_42 : decode cX10_between 42 = .ok (.iaload, 1) := by decide +kernel
theorem dX10_between_43 : decode cX10_between 43 = .ok (.invokevirtual 204, 3) := by decide +kernel
theorem dX10_between_46 : decode cX10_between 46 = .ok (.astore_n 3, 1) := by decide +kernel
theorem dX10_between_47 : decode cX10_between 47 = .ok (.aload_n 3, 1) := by decide +kernel
theorem dX10_between_48 : decode cX10_between 48 = .ok (.aload_n 0, 1) := by decide +kernel
theorem dX10_between_49 : decode cX10_between 49 = .ok (.getfield 12, 3) := by decide +kernel
theorem dX10_between_52 : decode cX10_between 52 = .ok (.getfield 130, 3) := by decide +kernel
theorem dX10_between_55 : decode cX10_between 55 = .ok (.iload_n 2, 1) := by decide +kernel
theorem dX10_between_56 : decode cX10_between 56 = .ok (.iaload, 1) := by decide +kernel
theorem dX10_between_57 : decode cX10_between 57 = .ok (.aload_n 0, 1) := by decide +kernel
theorem dX10_between_58 : decode cX10_between 58 = .ok (.getfield 12, 3) := by decide +kernel
theorem dX10_between_61 : decode cX10_between 61 = .ok (.getfield 133, 3) := by decide +kernel
theorem dX10_between_64 : decode cX10_between 64 = .ok (.iload_n 2, 1) := by decide +kernel
theorem dX10_between_65 : decode cX10_between 65 = .ok (.iaload, 1) := by decide +kernel
theorem dX10_between_66 : decode cX10_between 66 = .ok (.invokevirtual 241, 3) := by decide +kernel
theorem dX10_between_69 : decode cX10_between 69 = .ok (.ireturn, 1) := by decide +kernel
theorem dX10_rest_0 : decode cX10_rest 0 = .ok (.aload_n 0, 1) := by decide +kernel
theorem dX10_rest_1 : decode cX10_rest 1 = .ok (.getfield 28, 3) := by decide +kernel
theorem dX10_rest_4 : decode cX10_rest 4 = .ok (.invokevirtual 151, 3) := by decide +kernel
theorem dX10_rest_7 : decode cX10_rest 7 = .ok (.aload_n 0, 1) := by decide +kernel
theorem dX10_rest_8 : decode cX10_rest 8 = .ok (.getfield 62, 3) := by decide +kernel
theorem dX10_rest_11 : decode cX10_rest 11 = .ok (.invokevirtual 244, 3) := by decide +kernel
theorem dX10_rest_14 : decode cX10_rest 14 = .ok (.aload_n 0, 1) := by decide +kernel
theorem dX10_rest_15 : decode cX10_rest 15 = .ok (.getfield 62, 3) := by decide +kernel
theorem dX10_rest_18 : decode cX10_rest 18 = .ok (.getfield 245, 3) := by decide +kernel
theorem dX10_rest_21 : decode cX10_rest 21 = .ok (.ireturn, 1) := by decide +kernel
theorem dX10_lot_0 : decode cX10_lot 0 = .ok (.aload_n 0, 1) := by decide +kernel
theorem dX10_lot_1 : decode cX10_lot 1 = .ok (.getfield 28, 3) := by decide +kernel
theorem dX10_lot_4 : decode cX10_lot 4 = .ok (.invokevirtual 151, 3) := by decide +kernel
theorem dX10_lot_7 : decode cX10_lot 7 = .ok (.aload_n 0, 1) := by decide +kernel
theorem dX10_lot_8 : decode cX10_lot 8 = .ok (.getfield 62, 3) := by decide +kernel
theorem dX10_lot_11 : decode cX10_lot 11 = .ok (.invokevirtual 244, 3) := by decide +kernel
theorem dX10_lot_14 : decode cX10_lot 14 = .ok (.aload_n 0, 1) := by decide +kernel
theorem dX10_lot_15 : decode cX10_lot 15 = .ok (.getfield 62, 3) := by decide +kernel
theorem dX10_lot_18 : decode cX10_lot 18 = .ok (.getfield 248, 3) := by decide +kernel
theorem dX10_lot_21 : decode cX10_lot 21 = .ok (.ifCond .eq 19, 3) := by decide +kernel
theorem dX10_lot_24 : decode cX10_lot 24 = .ok (.iload_n 1, 1) := by decide +kernel
theorem dX10_lot_25 : decode cX10_lot 25 = .ok (.iconst (-1), 1) := by decide +kernel
theorem dX10_lot_26 : decode cX10_lot 26 = .ok (.if_icmp .lt 14, 3) := by decide +kernel
theorem dX10_lot_29 : decode cX10_lot 29 = .ok (.iload_n 1, 1) := by decide +kernel
theorem dX10_lot_30 : decode cX10_lot 30 = .ok (.aload_n 0, 1) := by decide +kernel
theorem dX10_lot_31 : decode cX10_lot 31 = .ok (.getfield 62, 3) := by decide +kernel
theorem dX10_lot_34 : decode cX10_lot 34 = .ok (.getfield 252, 3) := by decide +kernel
theorem dX10_lot_37 : decode cX10_lot 37 = .ok (.if_icmp .lt 5, 3) := by decide +kernel
theorem dX10_lot_40 : decode cX10_lot 40 = .ok (.iconst (-1), 1) := by decide +kernel
theorem dX10_lot_41 : decode cX10_lot 41 = .ok (.ireturn, 1) := by decide +kernel
theorem dX10_lot_42 : decode cX10_lot 42 = .ok (.iload_n 1, 1) := by decide +kernel
theorem dX10_lot_43 : decode cX10_lot 43 = .ok (.iconst (-1), 1) := by decide +kernel
theorem dX10_lot_44 : decode cX10_lot 44 = .ok (.if_icmp .ne 14, 3) := by decide +kernel
theorem dX10_lot_47 : decode cX10_lot 47 = .ok (.aload_n 0, 1) := by decide +kernel
theorem dX10_lot_48 : decode cX10_lot 48 = .ok (.getfield 62, 3) := by decide +kernel
theorem dX10_lot_51 : decode cX10_lot 51 = .ok (.getfield 253, 3) := by decide +kernel
theorem dX10_lot_54 : decode cX10_lot 54 = .ok (.l2i, 1) := by decide +kernel
theorem dX10_lot_55 : decode cX10_lot 55 = .ok (.goto 13, 3) := by decide +kernel
theorem dX10_lot_58 : decode cX10_lot 58 = .ok (.aload_n 0, 1) := by decide +kernel
theorem dX10_lot_59 : decode cX10_lot 59 = .ok (.getfield 62, 3) := by decide +kernel
theorem dX10_lot_62 : decode cX10_lot 62 = .ok (.getfield 256, 3) := by decide +kernel
theorem dX10_lot_65 : decode cX10_lot 65 = .ok (.iload_n 1, 1) := by decide +kernel
theorem dX10_lot_66 : decode cX10_lot 66 = .ok (.laload, 1) := by decide +kernel
theorem dX10_lot_67 : decode cX10_lot 67 = .ok (.l2i, 1) := by decide +kernel
theorem dX10_lot_68 : decode cX10_lot 68 = .ok (.ireturn, 1) := by decide +kernel
theorem dX10_need_0 : decode cX10_need 0 = .ok (.aload_n 0, 1) := by decide +kernel
theorem dX10_need_1 : decode cX10_need 1 = .ok (.getfield 12, 3) := by decide +kernel
theorem dX10_need_4 : decode cX10_need 4 = .ok (.getfield 140, 3) := by decide +kernel
theorem dX10_need_7 : decode cX10_need 7 = .ok (.iconst 2, 1) := by decide +kernel
theorem dX10_need_8 : decode cX10_need 8 = .ok (.if_icmp .lt 19, 3) := by decide +kernel
theorem dX10_need_11 : decode cX10_need 11 = .ok (.iload_n 1, 1) := by decide +kernel
theorem dX10_need_12 : decode cX10_need 12 = .ok (.iconst (-1), 1) := by decide +kernel
theorem dX10_need_13 : decode cX10_need 13 = .ok (.if_icmp .eq 16, 3) := by decide +kernel
theorem dX10_need_16 : decode cX10_need 16 = .ok (.aload_n 0, 1) := by decide +kernel
theorem dX10_need_17 : decode cX10_need 17 = .ok (.getfield 12, 3) := by decide +kernel
theorem dX10_need_20 : decode cX10_need 20 = .ok (.iload_n 1, 1) := by decide +kernel
theorem dX10_need_21 : decode cX10_need 21 = .ok (.invokevirtual 127, 3) := by decide +kernel
theorem dX10_need_24 : decode cX10_need 24 = .ok (.ifCond .ne 5, 3) := by decide +kernel
theorem dX10_need_27 : decode cX10_need 27 = .ok (.iconst (-1), 1) := by decide +kernel
theorem dX10_need_28 : decode cX10_need 28 = .ok (.ireturn, 1) := by decide +kernel
theorem dX10_need_29 : decode cX10_need 29 = .ok (.aload_n 0, 1) := by decide +kernel
theorem dX10_need_30 : decode cX10_need 30 = .ok (.getfield 28, 3) := by decide +kernel
theorem dX10_need_33 : decode cX10_need 33 = .ok (.invokevirtual 151, 3) := by decide +kernel
theorem dX10_need_36 : decode cX10_need 36 = .ok (.iload_n 1, 1) := by decide +kernel
theorem dX10_need_37 : decode cX10_need 37 = .ok (.iconst (-1), 1) := by decide +kernel
theorem dX10_need_38 : decode cX10_need 38 = .ok (.if_icmp .ne 13, 3) := by decide +kernel
theorem dX10_need_41 : decode cX10_need 41 = .ok (.aload_n 0, 1) := by decide +kernel
theorem dX10_need_42 : decode cX10_need 42 = .ok (.getfield 28, 3) := by decide +kernel
theorem dX10_need_45 : decode cX10_need 45 = .ok (.invokevirtual 259, 3) := by decide +kernel
theorem dX10_need_48 : decode cX10_need 48 = .ok (.goto 11, 3) := by decide +kernel
theorem dX10_need_51 : decode cX10_need 51 = .ok (.aload_n 0, 1) := by decide +kernel
theorem dX10_need_52 : decode cX10_need 52 = .ok (.getfield 28, 3) := by decide +kernel
theorem dX10_need_55 : decode cX10_need 55 = .ok (.iload_n 1, 1) := by decide +kernel
theorem dX10_need_56 : decode cX10_need 56 = .ok (.invokevirtual 262, 3) := by decide +kernel
theorem dX10_need_59 : decode cX10_need 59 = .ok (.ireturn, 1) := by decide +kernel
theorem dX10_most_0 : decode cX10_most 0 = .ok (.aload_n 0, 1) := by decide +kernel
theorem dX10_most_1 : decode cX10_most 1 = .ok (.getfield 12, 3) := by decide +kernel
theorem dX10_most_4 : decode cX10_most 4 = .ok (.getfield 101, 3) := by decide +kernel
theorem dX10_most_7 : decode cX10_most 7 = .ok (.ifCond .eq 11, 3) := by decide +kernel
theorem dX10_most_10 : decode cX10_most 10 = .ok (.iload_n 1, 1) := by decide +kernel
theorem dX10_most_11 : decode cX10_most 11 = .ok (.iload_n 2, 1) := by decide +kernel
theorem dX10_most_12 : decode cX10_most 12 = .ok (.invokestatic 136, 3) := by decide +kernel
theorem dX10_most_15 : decode cX10_most 15 = .ok (.ifCond .ne 5, 3) := by decide +kernel
theorem dX10_most_18 : decode cX10_most 18 = .ok (.iconst (-1), 1) := by decide +kernel
theorem dX10_most_19 : decode cX10_most 19 = .ok (.ireturn, 1) := by decide +kernel
theorem dX10_most_20 : decode cX10_most 20 = .ok (.aload_n 0, 1) := by decide +kernel
theorem dX10_most_21 : decode cX10_most 21 = .ok (.iload_n 1, 1) := by decide +kernel
theorem dX10_most_22 : decode cX10_most 22 = .ok (.iload_n 2, 1) := by decide +kernel
theorem dX10_most_23 : decode cX10_most 23 = .ok (.invokevirtual 204, 3) := by decide +kernel
theorem dX10_most_26 : decode cX10_most 26 = .ok (.getfield 265, 3) := by decide +kernel
theorem dX10_most_29 : decode cX10_most 29 = .ok (.ireturn, 1) := by decide +kernel
theorem dX10_peace_0 : decode cX10_peace 0 = .ok (.aload_n 0, 1) := by decide +kernel
theorem dX10_peace_1 : decode cX10_peace 1 = .ok (.getfield 28, 3) := by decide +kernel
theorem dX10_peace_4 : decode cX10_peace 4 = .ok (.invokevirtual 151, 3) := by decide +kernel
theorem dX10_peace_7 : decode cX10_peace 7 = .ok (.aload_n 0, 1) := by decide +kernel
theorem dX10_peace_8 : decode cX10_peace 8 = .ok (.getfield 28, 3) := by decide +kernel
theorem dX10_peace_11 : decode cX10_peace 11 = .ok (.getfield 268, 3) := by decide +kernel
theorem dX10_peace_14 : decode cX10_peace 14 = .ok (.ireturn, 1) := by decide +kernel
theorem dX10_make_0 : decode cX10_make 0 = .ok (.iload_n 1, 1) := by decide +kernel
theorem dX10_make_1 : decode cX10_make 1 = .ok (.ifCond .lt 8, 3) := by decide +kernel
theorem dX10_make_4 : decode cX10_make 4 = .ok (.iload_n 1, 1) := by decide +kernel
theorem dX10_make_5 : decode cX10_make 5 = .ok (.iconst 2, 1) := by decide +kernel
theorem dX10_make_6 : decode cX10_make 6 = .ok (.if_icmp .le 5, 3) := by decide +kernel
theorem dX10_make_9 : decode cX10_make 9 = .ok (.iconst (-1), 1) := by decide +kernel
theorem dX10_make_10 : decode cX10_make 10 = .ok (.ireturn, 1) := by decide +kernel
theorem dX10_make_11 : decode cX10_make 11 = .ok (.aload_n 0, 1) := by decide +kernel
theorem dX10_make_12 : decode cX10_make 12 = .ok (.getfield 28, 3) := by decide +kernel
theorem dX10_make_15 : decode cX10_make 15 = .ok (.invokevirtual 151, 3) := by decide +kernel
theorem dX10_make_18 : decode cX10_make 18 = .ok (.aload_n 0, 1) := by decide +kernel
theorem dX10_make_19 : decode cX10_make 19 = .ok (.getfield 69, 3) := by decide +kernel
theorem dX10_make_22 : decode cX10_make 22 = .ok (.invokevirtual 271, 3) := by decide +kernel
theorem dX10_make_25 : decode cX10_make 25 = .ok (.iload_n 1, 1) := by decide +kernel
theorem dX10_make_26 : decode cX10_make 26 = .ok (.lookupswitch 42 #[(0, 26), (1, 34)], 26) := by decide +kernel
theorem dX10_make_52 : decode cX10_make 52 = .ok (.aload_n 0, 1) := by decide +kernel
theorem dX10_make_53 : decode cX10_make 53 = .ok (.getfield 69, 3) := by decide +kernel
theorem dX10_make_56 : decode cX10_make 56 = .ok (.getfield 274, 3) := by decide +kernel
theorem dX10_make_59 : decode cX10_make 59 = .ok (.ireturn, 1) := by decide +kernel
theorem dX10_make_60 : decode cX10_make 60 = .ok (.aload_n 0, 1) := by decide +kernel
theorem dX10_make_61 : decode cX10_make 61 = .ok (.getfield 69, 3) := by decide +kernel
theorem dX10_make_64 : decode cX10_make 64 = .ok (.getfield 277, 3) := by decide +kernel
theorem dX10_make_67 : decode cX10_make 67 = .ok (.ireturn, 1) := by decide +kernel
theorem dX10_make_68 : decode cX10_make 68 = .ok (.aload_n 0, 1) := by decide +kernel
theorem dX10_make_69 : decode cX10_make 69 = .ok (.getfield 69, 3) := by decide +kernel
theorem dX10_make_72 : decode cX10_make 72 = .ok (.getfield 280, 3) := by decide +kernel
theorem dX10_make_75 : decode cX10_make 75 = .ok (.ireturn, 1) := by decide +kernel
theorem dX10_join_0 : decode cX10_join 0 = .ok (.aload_n 0, 1) := by decide +kernel
theorem dX10_join_1 : decode cX10_join 1 = .ok (.getfield 12, 3) := by decide +kernel
theorem dX10_join_4 : decode cX10_join 4 = .ok (.iload_n 1, 1) := by decide +kernel
theorem dX10_join_5 : decode cX10_join 5 = .ok (.invokevirtual 127, 3) := by decide +kernel
theorem dX10_join_8 : decode cX10_join 8 = .ok (.ifCond .ne 5, 3) := by decide +kernel
theorem dX10_join_11 : decode cX10_join 11 = .ok (.iconst (-1), 1) := by decide +kernel
theorem dX10_join_12 : decode cX10_join 12 = .ok (.ireturn, 1) := by decide +kernel
theorem dX10_join_13 : decode cX10_join 13 = .ok (.aload_n 0, 1) := by decide +kernel
theorem dX10_join_14 : decode cX10_join 14 = .ok (.getfield 28, 3) := by decide +kernel
theorem dX10_join_17 : decode cX10_join 17 = .ok (.invokevirtual 151, 3) := by decide +kernel
theorem dX10_join_20 : decode cX10_join 20 = .ok (.aload_n 0, 1) := by decide +kernel
theorem dX10_join_21 : decode cX10_join 21 = .ok (.getfield 69, 3) := by decide +kernel
theorem dX10_join_24 : decode cX10_join 24 = .ok (.iload_n 1, 1) := by decide +kernel
theorem dX10_join_25 : decode cX10_join 25 = .ok (.invokevirtual 283, 3) := by decide +kernel
theorem dX10_join_28 : decode cX10_join 28 = .ok (.ireturn, 1) := by decide +kernel
theorem dX10_doubt_0 : decode cX10_doubt 0 = .ok (.aload_n 0, 1) := by decide +kernel
theorem dX10_doubt_1 : decode cX10_doubt 1 = .ok (.getfield 12, 3) := by decide +kernel
theorem dX10_doubt_4 : decode cX10_doubt 4 = .ok (.iload_n 1, 1) := by decide +kernel
theorem dX10_doubt_5 : decode cX10_doubt 5 = .ok (.invokevirtual 127, 3) := by decide +kernel
theorem dX10_doubt_8 : decode cX10_doubt 8 = .ok (.ifCond .eq 12, 3) := by decide +kernel
theorem dX10_doubt_11 : decode cX10_doubt 11 = .ok (.iload_n 2, 1) := by decide +kernel
theorem dX10_doubt_12 : decode cX10_doubt 12 = .ok (.ifCond .lt 8, 3) := by decide +kernel
theorem dX10_doubt_15 : decode cX10_doubt 15 = .ok (.iload_n 2, 1) := by decide +kernel
theorem dX10_doubt_16 : decode cX10_doubt 16 = .ok (.iconst 5, 1) := by decide +kernel
theorem dX10_doubt_17 : decode cX10_doubt 17 = .ok (.if_icmp .le 5, 3) := by decide +kernel
theorem dX10_doubt_20 : decode cX10_doubt 20 = .ok (.iconst (-1), 1) := by decide +kernel
theorem dX10_doubt_21 : decode cX10_doubt 21 = .ok (.ireturn, 1) := by decide +kernel
theorem dX10_doubt_22 : decode cX10_doubt 22 = .ok (.aload_n 0, 1) := by decide +kernel
theorem dX10_doubt_23 : decode cX10_doubt 23 = .ok (.getfield 69, 3) := by decide +kernel
theorem dX10_doubt_26 : decode cX10_doubt 26 = .ok (.iload_n 1, 1) := by decide +kernel
theorem dX10_doubt_27 : decode cX10_doubt 27 = .ok (.iload_n 2, 1) := by decide +kernel
theorem dX10_doubt_28 : decode cX10_doubt 28 = .ok (.invokevirtual 286, 3) := by decide +kernel
theorem dX10_doubt_31 : decode cX10_doubt 31 = .ok (.ireturn, 1) := by decide +kernel
theorem dX10_move_0 : decode cX10_move 0 = .ok (.aload_n 0, 1) := by decide +kernel
theorem dX10_move_1 : decode cX10_move 1 = .ok (.getfield 12, 3) := by decide +kernel
theorem dX10_move_4 : decode cX10_move 4 = .ok (.iload_n 1, 1) := by decide +kernel
theorem dX10_move_5 : decode cX10_move 5 = .ok (.invokevirtual 104, 3) := by decide +kernel
theorem dX10_move_8 : decode cX10_move 8 = .ok (.ifCond .eq 36, 3) := by decide +kernel
theorem dX10_move_11 : decode cX10_move 11 = .ok (.iload_n 2, 1) := by decide +kernel
theorem dX10_move_12 : decode cX10_move 12 = .ok (.iload_n 3, 1) := by decide +kernel
theorem dX10_move_13 : decode cX10_move 13 = .ok (.invokestatic 136, 3) := by decide +kernel
theorem dX10_move_16 : decode cX10_move 16 = .ok (.ifCond .eq 28, 3) := by decide +kernel
theorem dX10_move_19 : decode cX10_move 19 = .ok (.aload_n 0, 1) := by decide +kernel
theorem dX10_move_20 : decode cX10_move 20 = .ok (.getfield 12, 3) := by decide +kernel
theorem dX10_move_23 : decode cX10_move 23 = .ok (.iload_n 1, 1) := by decide +kernel
theorem dX10_move_24 : decode cX10_move 24 = .ok (.iload_n 2, 1) := by decide +kernel
theorem dX10_move_25 : decode cX10_move 25 = .ok (.iload_n 3, 1) := by decide +kernel
theorem dX10_move_26 : decode cX10_move 26 = .ok (.invokevirtual 289, 3) := by decide +kernel
theorem dX10_move_29 : decode cX10_move 29 = .ok (.ifCond .ne 15, 3) := by decide +kernel
theorem dX10_move_32 : decode cX10_move 32 = .ok (.aload_n 0, 1) := by decide +kernel
theorem dX10_move_33 : decode cX10_move 33 = .ok (.getfield 76, 3) := by decide +kernel
theorem dX10_move_36 : decode cX10_move 36 = .ok (.getfield 98, 3) := by decide +kernel
theorem dX10_move_39 : decode cX10_move 39 = .ok (.bipush 40, 2) := by decide +kernel
theorem dX10_move_41 : decode cX10_move 41 = .ok (.if_icmp .lt 5, 3) := by decide +kernel
theorem dX10_move_44 : decode cX10_move 44 = .ok (.iconst (-1), 1) := by decide +kernel
theorem dX10_move_45 : decode cX10_move 45 = .ok (.ireturn, 1) := by decide +kernel
theorem dX10_move_46 : decode cX10_move 46 = .ok (.aload_n 0, 1) := by decide +kernel
theorem dX10_move_47 : decode cX10_move 47 = .ok (.getfield 28, 3) := by decide +kernel
theorem dX10_move_50 : decode cX10_move 50 = .ok (.invokevirtual 151, 3) := by decide +kernel
theorem dX10_move_53 : decode cX10_move 53 = .ok (.aload_n 0, 1) := by decide +kernel
theorem dX10_move_54 : decode cX10_move 54 = .ok (.getfield 76, 3) := by decide +kernel
theorem dX10_move_57 : decode cX10_move 57 = .ok (.iload_n 1, 1) := by decide +kernel
theorem dX10_move_58 : decode cX10_move 58 = .ok (.aload_n 0, 1) := by decide +kernel
theorem dX10_move_59 : decode cX10_move 59 = .ok (.getfield 12, 3) := by decide +kernel
theorem dX10_move_62 : decode cX10_move 62 = .ok (.getfield 108, 3) := by decide +kernel
theorem dX10_move_65 : decode cX10_move 65 = .ok (.iload_n 1, 1) := by decide +kernel
theorem dX10_move_66 : decode cX10_move 66 = .ok (.iaload, 1) := by decide +kernel
theorem dX10_move_67 : decode cX10_move 67 = .ok (.aload_n 0, 1) := by decide +kernel
theorem dX10_move_68 : decode cX10_move 68 = .ok (.getfield 12, 3) := by decide +kernel
theorem dX10_move_71 : decode cX10_move 71 = .ok (.getfield 112, 3) := by decide +kernel
theorem dX10_move_74 : decode cX10_move 74 = .ok (.iload_n 1, 1) := by decide +kernel
theorem dX10_move_75 : decode cX10_move 75 = .ok (.iaload, 1) := by decide +kernel
theorem dX10_move_76 : decode cX10_move 76 = .ok (.aload_n 0, 1) := by decide +kernel
theorem dX10_move_77 : decode cX10_move 77 = .ok (.getfield 28, 3) := by decide +kernel
theorem dX10_move_80 : decode cX10_move 80 = .ok (.getfield 293, 3) := by decide +kernel
theorem dX10_move_83 : decode cX10_move 83 = .ok (.aload_n 0, 1) := by decide +kernel
theorem dX10_move_84 : decode cX10_move 84 = .ok (.getfield 28, 3) := by decide +kernel
theorem dX10_move_87 : decode cX10_move 87 = .ok (.getfield 268, 3) := by decide +kernel
theorem dX10_move_90 : decode cX10_move 90 = .ok (.invokevirtual 296, 3) := by decide +kernel
theorem dX10_move_93 : decode cX10_move 93 = .ok (.aload_n 0, 1) := by decide +kernel
theorem dX10_move_94 : decode cX10_move 94 = .ok (.getfield 12, 3) := by decide +kernel
theorem dX10_move_97 : decode cX10_move 97 = .ok (.iload_n 1, 1) := by decide +kernel
theorem dX10_move_98 : decode cX10_move 98 = .ok (.iload_n 2, 1) := by decide +kernel
theorem dX10_move_99 : decode cX10_move 99 = .ok (.iload_n 3, 1) := by decide +kernel
theorem dX10_move_100 : decode cX10_move 100 = .ok (.invokevirtual 300, 3) := by decide +kernel
theorem dX10_move_103 : decode cX10_move 103 = .ok (.aload_n 0, 1) := by decide +kernel
theorem dX10_move_104 : decode cX10_move 104 = .ok (.getfield 28, 3) := by decide +kernel
theorem dX10_move_107 : decode cX10_move 107 = .ok (.invokevirtual 151, 3) := by decide +kernel
theorem dX10_move_110 : decode cX10_move 110 = .ok (.aload_n 0, 1) := by decide +kernel
theorem dX10_move_111 : decode cX10_move 111 = .ok (.getfield 76, 3) := by decide +kernel
theorem dX10_move_114 : decode cX10_move 114 = .ok (.iload_n 2, 1) := by decide +kernel
theorem dX10_move_115 : decode cX10_move 115 = .ok (.iload_n 3, 1) := by decide +kernel
theorem dX10_move_116 : decode cX10_move 116 = .ok (.aload_n 0, 1) := by decide +kernel
theorem dX10_move_117 : decode cX10_move 117 = .ok (.getfield 28, 3) := by decide +kernel
theorem dX10_move_120 : decode cX10_move 120 = .ok (.getfield 293, 3) := by decide +kernel
theorem dX10_move_123 : decode cX10_move 123 = .ok (.aload_n 0, 1) := by decide +kernel
theorem dX10_move_124 : decode cX10_move 124 = .ok (.getfield 28, 3) := by decide +kernel
theorem dX10_move_127 : decode cX10_move 127 = .ok (.getfield 268, 3) := by decide +kernel
theorem dX10_move_130 : decode cX10_move 130 = .ok (.invokevirtual 304, 3) := by decide +kernel
theorem dX10_move_133 : decode cX10_move 133 = .ok (.aload_n 0, 1) := by decide +kernel
theorem dX10_move_134 : decode cX10_move 134 = .ok (.getfield 76, 3) := by decide +kernel
theorem dX10_move_137 : decode cX10_move 137 = .ok (.getfield 98, 3) := by decide +kernel
theorem dX10_move_140 : decode cX10_move 140 = .ok (.ireturn, 1) := by decide +kernel
theorem dX10_undo_0 : decode cX10_undo 0 = .ok (.aload_n 0, 1) := by decide +kernel
theorem dX10_undo_1 : decode cX10_undo 1 = .ok (.getfield 76, 3) := by decide +kernel
theorem dX10_undo_4 : decode cX10_undo 4 = .ok (.getfield 98, 3) := by decide +kernel
theorem dX10_undo_7 : decode cX10_undo 7 = .ok (.ifCond .ne 5, 3) := by decide +kernel
theorem dX10_undo_10 : decode cX10_undo 10 = .ok (.iconst (-1), 1) := by decide +kernel
theorem dX10_undo_11 : decode cX10_undo 11 = .ok (.ireturn, 1) := by decide +kernel
theorem dX10_undo_12 : decode cX10_undo 12 = .ok (.aload_n 0, 1) := by decide +kernel
theorem dX10_undo_13 : decode cX10_undo 13 = .ok (.getfield 76, 3) := by decide +kernel
theorem dX10_undo_16 : decode cX10_undo 16 = .ok (.getfield 98, 3) := by decide +kernel
theorem dX10_undo_19 : decode cX10_undo 19 = .ok (.iconst 1, 1) := by decide +kernel
theorem dX10_undo_20 : decode cX10_undo 20 = .ok (.isub, 1) := by decide +kernel
theorem dX10_undo_21 : decode cX10_undo 21 = .ok (.istore_n 1, 1) := by decide +kernel
theorem dX10_undo_22 : decode cX10_undo 22 = .ok (.aload_n 0, 1) := by decide +kernel
theorem dX10_undo_23 : decode cX10_undo 23 = .ok (.getfield 76, 3) := by decide +kernel
theorem dX10_undo_26 : decode cX10_undo 26 = .ok (.iload_n 1, 1) := by decide +kernel
theorem dX10_undo_27 : decode cX10_undo 27 = .ok (.iconst 0, 1) := by decide +kernel
theorem dX10_undo_28 : decode cX10_undo 28 = .ok (.invokevirtual 308, 3) := by decide +kernel
theorem dX10_undo_31 : decode cX10_undo 31 = .ok (.istore_n 2, 1) := by decide +kernel
theorem dX10_undo_32 : decode cX10_undo 32 = .ok (.aload_n 0, 1) := by decide +kernel
theorem dX10_undo_33 : decode cX10_undo 33 = .ok (.getfield 12, 3) := by decide +kernel
theorem dX10_undo_36 : decode cX10_undo 36 = .ok (.iload_n 2, 1) := by decide +kernel
theorem dX10_undo_37 : decode cX10_undo 37 = .ok (.aload_n 0, 1) := by decide +kernel
theorem dX10_undo_38 : decode cX10_undo 38 = .ok (.getfield 76, 3) := by decide +kernel
theorem dX10_undo_41 : decode cX10_undo 41 = .ok (.iload_n 1, 1) := by decide +kernel
theorem dX10_undo_42 : decode cX10_undo 42 = .ok (.iconst 1, 1) := by decide +kernel
theorem dX10_undo_43 : decode cX10_undo 43 = .ok (.invokevirtual 308, 3) := by decide +kernel
theorem dX10_undo_46 : decode cX10_undo 46 = .ok (.aload_n 0, 1) := by decide +kernel
theorem dX10_undo_47 : decode cX10_undo 47 = .ok (.getfield 76, 3) := by decide +kernel
theorem dX10_undo_50 : decode cX10_undo 50 = .ok (.iload_n 1, 1) := by decide +kernel
theorem dX10_undo_51 : decode cX10_undo 51 = .ok (.iconst 2, 1) := by decide +kernel
theorem dX10_undo_52 : decode cX10_undo 52 = .ok (.invokevirtual 308, 3) := by decide +kernel
theorem dX10_undo_55 : decode cX10_undo 55 = .ok (.invokevirtual 300, 3) := by decide +kernel
theorem dX10_undo_58 : decode cX10_undo 58 = .ok (.aload_n 0, 1) := by decide +kernel
theorem dX10_undo_59 : decode cX10_undo 59 = .ok (.getfield 76, 3) := by decide +kernel
theorem dX10_undo_62 : decode cX10_undo 62 = .ok (.iload_n 1, 1) := by decide +kernel
theorem dX10_undo_63 : decode cX10_undo 63 = .ok (.putfield 98, 3) := by decide +kernel
theorem dX10_undo_66 : decode cX10_undo 66 = .ok (.iload_n 2, 1) := by decide +kernel
theorem dX10_undo_67 : decode cX10_undo 67 = .ok (.ireturn, 1) := by decide +kernel
theorem dX10_moved_0 : decode cX10_moved 0 = .ok (.iload_n 1, 1) := by decide +kernel
theorem dX10_moved_1 : decode cX10_moved 1 = .ok (.ifCond .lt 24, 3) := by decide +kernel
theorem dX10_moved_4 : decode cX10_moved 4 = .ok (.iload_n 1, 1) := by decide +kernel
theorem dX10_moved_5 : decode cX10_moved 5 = .ok (.aload_n 0, 1) := by decide +kernel
theorem dX10_moved_6 : decode cX10_moved 6 = .ok (.getfield 76, 3) := by decide +kernel
theorem dX10_moved_9 : decode cX10_moved 9 = .ok (.getfield 98, 3) := by decide +kernel
theorem dX10_moved_12 : decode cX10_moved 12 = .ok (.if_icmp .ge 13, 3) := by decide +kernel
theorem dX10_moved_15 : decode cX10_moved 15 = .ok (.iload_n 2, 1) := by decide +kernel
theorem dX10_moved_16 : decode cX10_moved 16 = .ok (.ifCond .lt 9, 3) := by decide +kernel
theorem dX10_moved_19 : decode cX10_moved 19 = .ok (.iload_n 2, 1) := by decide +kernel
theorem dX10_moved_20 : decode cX10_moved 20 = .ok (.bipush 9, 2) := by decide +kernel
theorem dX10_moved_22 : decode cX10_moved 22 = .ok (.if_icmp .lt 5, 3) := by decide +kernel
theorem dX10_moved_25 : decode cX10_moved 25 = .ok (.iconst (-1), 1) := by decide +kernel
theorem dX10_moved_26 : decode cX10_moved 26 = .ok (.ireturn, 1) := by decide +kernel
theorem dX10_moved_27 : decode cX10_moved 27 = .ok (.aload_n 0, 1) := by decide +kernel
theorem dX10_moved_28 : decode cX10_moved 28 = .ok (.getfield 76, 3) := by decide +kernel
theorem dX10_moved_31 : decode cX10_moved 31 = .ok (.iload_n 1, 1) := by decide +kernel
theorem dX10_moved_32 : decode cX10_moved 32 = .ok (.iload_n 2, 1) := by decide +kernel
theorem dX10_moved_33 : decode cX10_moved 33 = .ok (.invokevirtual 308, 3) := by decide +kernel
theorem dX10_moved_36 : decode cX10_moved 36 = .ok (.ireturn, 1) := by decide +kernel
theorem dX10_count_0 : decode cX10_count 0 = .ok (.iload_n 1, 1) := by decide +kernel
theorem dX10_count_1 : decode cX10_count 1 = .ok (.tableswitch 94 0 5 #[39, 47, 55, 63, 71, 79], 39) := by decide +kernel
theorem dX10_count_40 : decode cX10_count 40 = .ok (.aload_n 0, 1) := by decide +kernel
theorem dX10_count_41 : decode cX10_count 41 = .ok (.getfield 12, 3) := by decide +kernel
theorem dX10_count_44 : decode cX10_count 44 = .ok (.getfield 101, 3) := by decide +kernel
theorem dX10_count_47 : decode cX10_count 47 = .ok (.ireturn, 1) := by decide +kernel
theorem dX10_count_48 : decode cX10_count 48 = .ok (.aload_n 0, 1) := by decide +kernel
theorem dX10_count_49 : decode cX10_count 49 = .ok (.getfield 12, 3) := by decide +kernel
theorem dX10_count_52 : decode cX10_count 52 = .ok (.getfield 140, 3) := by decide +kernel
theorem dX10_count_55 : decode cX10_count 55 = .ok (.ireturn, 1) := by decide +kernel
theorem dX10_count_56 : decode cX10_count 56 = .ok (.aload_n 0, 1) := by decide +kernel
theorem dX10_count_57 : decode cX10_count 57 = .ok (.getfield 12, 3) := by decide +kernel
theorem dX10_count_60 : decode cX10_count 60 = .ok (.getfield 311, 3) := by decide +kernel
theorem dX10_count_63 : decode cX10_count 63 = .ok (.ireturn, 1) := by decide +kernel
theorem dX10_count_64 : decode cX10_count 64 = .ok (.aload_n 0, 1) := by decide +kernel
theorem dX10_count_65 : decode cX10_count 65 = .ok (.getfield 76, 3) := by decide +kernel
theorem dX10_count_68 : decode cX10_count 68 = .ok (.getfield 98, 3) := by decide +kernel
theorem dX10_count_71 : decode cX10_count 71 = .ok (.ireturn, 1) := by decide +kernel
theorem dX10_count_72 : decode cX10_count 72 = .ok (.aload_n 0, 1) := by decide +kernel
theorem dX10_count_73 : decode cX10_count 73 = .ok (.getfield 19, 3) := by decide +kernel
theorem dX10_count_76 : decode cX10_count 76 = .ok (.getfield 80, 3) := by decide +kernel
theorem dX10_count_79 : decode cX10_count 79 = .ok (.ireturn, 1) := by decide +kernel
theorem dX10_count_80 : decode cX10_count 80 = .ok (.aload_n 0, 1) := by decide +kernel
theorem dX10_count_81 : decode cX10_count 81 = .ok (.getfield 28, 3) := by decide +kernel
theorem dX10_count_84 : decode cX10_count 84 = .ok (.invokevirtual 151, 3) := by decide +kernel
theorem dX10_count_87 : decode cX10_count 87 = .ok (.aload_n 0, 1) := by decide +kernel
theorem dX10_count_88 : decode cX10_count 88 = .ok (.getfield 28, 3) := by decide +kernel
theorem dX10_count_91 : decode cX10_count 91 = .ok (.getfield 293, 3) := by decide +kernel
theorem dX10_count_94 : decode cX10_count 94 = .ok (.ireturn, 1) := by decide +kernel
theorem dX10_count_95 : decode cX10_count 95 = .ok (.iconst (-1), 1) := by decide +kernel
theorem dX10_count_96 : decode cX10_count 96 = .ok (.ireturn, 1) := by decide +kernel
theorem dX10_fieldFrom_0 : decode cX10_fieldFrom 0 = .ok (.aload_n 0, 1) := by decide +kernel
theorem dX10_fieldFrom_1 : decode cX10_fieldFrom 1 = .ok (.getfield 314, 3) := by decide +kernel
theorem dX10_fieldFrom_4 : decode cX10_fieldFrom 4 = .ok (.ifnonnull 17, 3) := by decide +kernel
theorem dX10_fieldFrom_7 : decode cX10_fieldFrom 7 = .ok (.new 209, 3) := by decide +kernel
theorem dX10_fieldFrom_10 : decode cX10_fieldFrom 10 = .ok (.dup, 1) := by decide +kernel
theorem dX10_fieldFrom_11 : decode cX10_fieldFrom 11 = .ok (.aload_n 0, 1) := by decide +kernel
theorem dX10_fieldFrom_12 : decode cX10_fieldFrom 12 = .ok (.getfield 12, 3) := by decide +kernel
theorem dX10_fieldFrom_15 : decode cX10_fieldFrom 15 = .ok (.invokespecial 318, 3) := by decide +kernel
theorem dX10_fieldFrom_18 : decode cX10_fieldFrom 18 = .ok (.goto 7, 3) := by decide +kernel
theorem dX10_fieldFrom_21 : decode cX10_fieldFrom 21 = .ok (.aload_n 0, 1) := by decide +kernel
theorem dX10_fieldFrom_22 : decode cX10_fieldFrom 22 = .ok (.getfield 314, 3) := by decide +kernel
theorem dX10_fieldFrom_25 : decode cX10_fieldFrom 25 = .ok (.astore_n 3, 1) := by decide +kernel
theorem dX10_fieldFrom_26 : decode cX10_fieldFrom 26 = .ok (.aload_n 0, 1) := by decide +kernel
theorem dX10_fieldFrom_27 : decode cX10_fieldFrom 27 = .ok (.aload_n 3, 1) := by decide +kernel
theorem dX10_fieldFrom_28 : decode cX10_fieldFrom 28 = .ok (.putfield 314, 3) := by decide +kernel
theorem dX10_fieldFrom_31 : decode cX10_fieldFrom 31 = .ok (.aload_n 3, 1) := by decide +kernel
theorem dX10_fieldFrom_32 : decode cX10_fieldFrom 32 = .ok (.iload_n 1, 1) := by decide +kernel
theorem dX10_fieldFrom_33 : decode cX10_fieldFrom 33 = .ok (.iload_n 2, 1) := by decide +kernel
theorem dX10_fieldFrom_34 : decode cX10_fieldFrom 34 = .ok (.invokevirtual 319, 3) := by decide +kernel
theorem dX10_fieldFrom_37 : decode cX10_fieldFrom 37 = .ok (.aload_n 3, 1) := by decide +kernel
theorem dX10_fieldFrom_38 : decode cX10_fieldFrom 38 = .ok (.areturn, 1) := by decide +kernel
theorem dX10_isPoint_0 : decode cX10_isPoint 0 = .ok (.iload_n 0, 1) := by decide +kernel
theorem dX10_isPoint_1 : decode cX10_isPoint 1 = .ok (.ifCond .lt 23, 3) := by decide +kernel
theorem dX10_isPoint_4 : decode cX10_isPoint 4 = .ok (.iload_n 0, 1) := by decide +kernel
theorem dX10_isPoint_5 : decode cX10_isPoint 5 = .ok (.bipush 100, 2) := by decide +kernel
theorem dX10_isPoint_7 : decode cX10_isPoint 7 = .ok (.if_icmp .ge 17, 3) := by decide +kernel
theorem dX10_isPoint_10 : decode cX10_isPoint 10 = .ok (.iload_n 1, 1) := by decide +kernel
theorem dX10_isPoint_11 : decode cX10_isPoint 11 = .ok (.ifCond .lt 13, 3) := by decide +kernel
theorem dX10_isPoint_14 : decode cX10_isPoint 14 = .ok (.iload_n 1, 1) := by decide +kernel
theorem dX10_isPoint_15 : decode cX10_isPoint 15 = .ok (.bipush 100, 2) := by decide +kernel
theorem dX10_isPoint_17 : decode cX10_isPoint 17 = .ok (.if_icmp .ge 7, 3) := by decide +kernel
theorem dX10_isPoint_20 : decode cX10_isPoint 20 = .ok (.iconst 1, 1) := by decide +kernel
theorem dX10_isPoint_21 : decode cX10_isPoint 21 = .ok (.goto 4, 3) := by decide +kernel
theorem dX10_isPoint_24 : decode cX10_isPoint 24 = .ok (.iconst 0, 1) := by decide +kernel
theorem dX10_isPoint_25 : decode cX10_isPoint 25 = .ok (.ireturn, 1) := by decide +kernel
theorem dX10_commonPart_0 : decode cX10_commonPart 0 = .ok (.lload_n 0, 1) := by decide +kernel
theorem dX10_commonPart_1 : decode cX10_commonPart 1 = .ok (.invokestatic 322, 3) := by decide +kernel
theorem dX10_commonPart_4 : decode cX10_commonPart 4 = .ok (.lstore 4, 2) := by decide +kernel
theorem dX10_commonPart_6 : decode cX10_commonPart 6 = .ok (.lload_n 2, 1) := by decide +kernel
theorem dX10_commonPart_7 : decode cX10_commonPart 7 = .ok (.invokestatic 322, 3) := by decide +kernel
theorem dX10_commonPart_10 : decode cX10_commonPart 10 = .ok (.lstore 6, 2) := by decide +kernel
theorem dX10_commonPart_12 : decode cX10_commonPart 12 = .ok (.iconst 0, 1) := by decide +kernel
theorem dX10_commonPart_13 : decode cX10_commonPart 13 = .ok (.istore 8, 2) := by decide +kernel
theorem dX10_commonPart_15 : decode cX10_commonPart 15 = .ok (.iload 8, 2) := by decide +kernel
theorem dX10_commonPart_17 : decode cX10_commonPart 17 = .ok (.bipush 100, 2) := by decide +kernel
theorem dX10_commonPart_19 : decode cX10_commonPart 19 = .ok (.if_icmp .ge 31, 3) := by decide +kernel
theorem dX10_commonPart_22 : decode cX10_commonPart 22 = .ok (.lload 6, 2) := by decide +kernel
theorem dX10_commonPart_24 : decode cX10_commonPart 24 = .ok (.lconst 0, 1) := by decide +kernel
theorem dX10_commonPart_25 : decode cX10_commonPart 25 = .ok (.lcmp, 1) := by decide +kernel
theorem dX10_commonPart_26 : decode cX10_commonPart 26 = .ok (.ifCond .eq 24, 3) := by decide +kernel
theorem dX10_commonPart_29 : decode cX10_commonPart 29 = .ok (.lload 4, 2) := by decide +kernel
theorem dX10_commonPart_31 : decode cX10_commonPart 31 = .ok (.lload 6, 2) := by decide +kernel
theorem dX10_commonPart_33 : decode cX10_commonPart 33 = .ok (.lrem, 1) := by decide +kernel
theorem dX10_commonPart_34 : decode cX10_commonPart 34 = .ok (.lstore 9, 2) := by decide +kernel
theorem dX10_commonPart_36 : decode cX10_commonPart 36 = .ok (.lload 6, 2) := by decide +kernel
theorem dX10_commonPart_38 : decode cX10_commonPart 38 = .ok (.lstore 4, 2) := by decide +kernel
theorem dX10_commonPart_40 : decode cX10_commonPart 40 = .ok (.lload 9, 2) := by decide +kernel
theorem dX10_commonPart_42 : decode cX10_commonPart 42 = .ok (.lstore 6, 2) := by decide +kernel
theorem dX10_commonPart_44 : decode cX10_commonPart 44 = .ok (.iinc 8 1, 3) := by decide +kernel
theorem dX10_commonPart_47 : decode cX10_commonPart 47 = .ok (.goto (-32), 3) := by decide +kernel
theorem dX10_commonPart_50 : decode cX10_commonPart 50 = .ok (.lload 4, 2) := by decide +kernel
theorem dX10_commonPart_52 : decode cX10_commonPart 52 = .ok (.lreturn, 1) := by decide +kernel
