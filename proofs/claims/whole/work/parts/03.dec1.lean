theorem dX0_init_0 : decode cX0_init 0 = .ok (.aload_n 0, 1) := by decide +kernel
theorem dX0_init_1 : decode cX0_init 1 = .ok (.invokespecial 3, 3) := by decide +kernel
theorem dX0_init_4 : decode cX0_init 4 = .ok (.aload_n 0, 1) := by decide +kernel
theorem dX0_init_5 : decode cX0_init 5 = .ok (.sipush 400, 3) := by decide +kernel
theorem dX0_init_8 : decode cX0_init 8 = .ok (.newarray .int, 2) := by decide +kernel
theorem dX0_init_10 : decode cX0_init 10 = .ok (.putfield 9, 3) := by decide +kernel
theorem dX0_init_13 : decode cX0_init 13 = .ok (.aload_n 0, 1) := by decide +kernel
theorem dX0_init_14 : decode cX0_init 14 = .ok (.bipush 20, 2) := by decide +kernel
theorem dX0_init_16 : decode cX0_init 16 = .ok (.newarray .int, 2) := by decide +kernel
theorem dX0_init_18 : decode cX0_init 18 = .ok (.putfield 15, 3) := by decide +kernel
theorem dX0_init_21 : decode cX0_init 21 = .ok (.aload_n 0, 1) := by decide +kernel
theorem dX0_init_22 : decode cX0_init 22 = .ok (.bipush 20, 2) := by decide +kernel
theorem dX0_init_24 : decode cX0_init 24 = .ok (.newarray .int, 2) := by decide +kernel
theorem dX0_init_26 : decode cX0_init 26 = .ok (.putfield 18, 3) := by decide +kernel
theorem dX0_init_29 : decode cX0_init 29 = .ok (.aload_n 0, 1) := by decide +kernel
theorem dX0_init_30 : decode cX0_init 30 = .ok (.bipush 20, 2) := by decide +kernel
theorem dX0_init_32 : decode cX0_init 32 = .ok (.newarray .int, 2) := by decide +kernel
theorem dX0_init_34 : decode cX0_init 34 = .ok (.putfield 21, 3) := by decide +kernel
theorem dX0_init_37 : decode cX0_init 37 = .ok (.aload_n 0, 1) := by decide +kernel
theorem dX0_init_38 : decode cX0_init 38 = .ok (.iconst (-1), 1) := by decide +kernel
theorem dX0_init_39 : decode cX0_init 39 = .ok (.putfield 24, 3) := by decide +kernel
theorem dX0_init_42 : decode cX0_init 42 = .ok (.aload_n 0, 1) := by decide +kernel
theorem dX0_init_43 : decode cX0_init 43 = .ok (.iconst (-1), 1) := by decide +kernel
theorem dX0_init_44 : decode cX0_init 44 = .ok (.putfield 28, 3) := by decide +kernel
theorem dX0_init_47 : decode cX0_init 47 = .ok (.aload_n 0, 1) := by decide +kernel
theorem dX0_init_48 : decode cX0_init 48 = .ok (.iconst (-1), 1) := by decide +kernel
theorem dX0_init_49 : decode cX0_init 49 = .ok (.putfield 31, 3) := by decide +kernel
theorem dX0_init_52 : decode cX0_init 52 = .ok (.aload_n 0, 1) := by decide +kernel
theorem dX0_init_53 : decode cX0_init 53 = .ok (.aload_n 1, 1) := by decide +kernel
theorem dX0_init_54 : decode cX0_init 54 = .ok (.putfield 34, 3) := by decide +kernel
theorem dX0_init_57 : decode cX0_init 57 = .ok (.return_, 1) := by decide +kernel
theorem dX0_refresh_0 : decode cX0_refresh 0 = .ok (.aload_n 0, 1) := by decide +kernel
theorem dX0_refresh_1 : decode cX0_refresh 1 = .ok (.getfield 28, 3) := by decide +kernel
theorem dX0_refresh_4 : decode cX0_refresh 4 = .ok (.aload_n 0, 1) := by decide +kernel
theorem dX0_refresh_5 : decode cX0_refresh 5 = .ok (.getfield 34, 3) := by decide +kernel
theorem dX0_refresh_8 : decode cX0_refresh 8 = .ok (.getfield 38, 3) := by decide +kernel
theorem dX0_refresh_11 : decode cX0_refresh 11 = .ok (.if_icmp .ne 18, 3) := by decide +kernel
theorem dX0_refresh_14 : decode cX0_refresh 14 = .ok (.aload_n 0, 1) := by decide +kernel
theorem dX0_refresh_15 : decode cX0_refresh 15 = .ok (.getfield 31, 3) := by decide +kernel
theorem dX0_refresh_18 : decode cX0_refresh 18 = .ok (.aload_n 0, 1) := by decide +kernel
theorem dX0_refresh_19 : decode cX0_refresh 19 = .ok (.getfield 34, 3) := by decide +kernel
theorem dX0_refresh_22 : decode cX0_refresh 22 = .ok (.getfield 41, 3) := by decide +kernel
theorem dX0_refresh_25 : decode cX0_refresh 25 = .ok (.if_icmp .ne 4, 3) := by decide +kernel
theorem dX0_refresh_28 : decode cX0_refresh 28 = .ok (.return_, 1) := by decide +kernel
theorem dX0_refresh_29 : decode cX0_refresh 29 = .ok (.aload_n 0, 1) := by decide +kernel
theorem dX0_refresh_30 : decode cX0_refresh 30 = .ok (.aload_n 0, 1) := by decide +kernel
theorem dX0_refresh_31 : decode cX0_refresh 31 = .ok (.getfield 34, 3) := by decide +kernel
theorem dX0_refresh_34 : decode cX0_refresh 34 = .ok (.getfield 38, 3) := by decide +kernel
theorem dX0_refresh_37 : decode cX0_refresh 37 = .ok (.putfield 28, 3) := by decide +kernel
theorem dX0_refresh_40 : decode cX0_refresh 40 = .ok (.aload_n 0, 1) := by decide +kernel
theorem dX0_refresh_41 : decode cX0_refresh 41 = .ok (.aload_n 0, 1) := by decide +kernel
theorem dX0_refresh_42 : decode cX0_refresh 42 = .ok (.getfield 34, 3) := by decide +kernel
theorem dX0_refresh_45 : decode cX0_refresh 45 = .ok (.getfield 41, 3) := by decide +kernel
theorem dX0_refresh_48 : decode cX0_refresh 48 = .ok (.putfield 31, 3) := by decide +kernel
theorem dX0_refresh_51 : decode cX0_refresh 51 = .ok (.aload_n 0, 1) := by decide +kernel
theorem dX0_refresh_52 : decode cX0_refresh 52 = .ok (.getfield 9, 3) := by decide +kernel
theorem dX0_refresh_55 : decode cX0_refresh 55 = .ok (.iconst 0, 1) := by decide +kernel
theorem dX0_refresh_56 : decode cX0_refresh 56 = .ok (.invokestatic 42, 3) := by decide +kernel
theorem dX0_refresh_59 : decode cX0_refresh 59 = .ok (.iconst 0, 1) := by decide +kernel
theorem dX0_refresh_60 : decode cX0_refresh 60 = .ok (.istore_n 1, 1) := by decide +kernel
theorem dX0_refresh_61 : decode cX0_refresh 61 = .ok (.iload_n 1, 1) := by decide +kernel
theorem dX0_refresh_62 : decode cX0_refresh 62 = .ok (.aload_n 0, 1) := by decide +kernel
theorem dX0_refresh_63 : decode cX0_refresh 63 = .ok (.getfield 34, 3) := by decide +kernel
theorem dX0_refresh_66 : decode cX0_refresh 66 = .ok (.getfield 48, 3) := by decide +kernel
theorem dX0_refresh_69 : decode cX0_refresh 69 = .ok (.if_icmp .ge 14, 3) := by decide +kernel
theorem dX0_refresh_72 : decode cX0_refresh 72 = .ok (.aload_n 0, 1) := by decide +kernel
theorem dX0_refresh_73 : decode cX0_refresh 73 = .ok (.iload_n 1, 1) := by decide +kernel
theorem dX0_refresh_74 : decode cX0_refresh 74 = .ok (.invokevirtual 51, 3) := by decide +kernel
theorem dX0_refresh_77 : decode cX0_refresh 77 = .ok (.iinc 1 1, 3) := by decide +kernel
theorem dX0_refresh_80 : decode cX0_refresh 80 = .ok (.goto (-19), 3) := by decide +kernel
theorem dX0_refresh_83 : decode cX0_refresh 83 = .ok (.aload_n 0, 1) := by decide +kernel
theorem dX0_refresh_84 : decode cX0_refresh 84 = .ok (.iconst 0, 1) := by decide +kernel
theorem dX0_refresh_85 : decode cX0_refresh 85 = .ok (.putfield 55, 3) := by decide +kernel
theorem dX0_refresh_88 : decode cX0_refresh 88 = .ok (.aload_n 0, 1) := by decide +kernel
theorem dX0_refresh_89 : decode cX0_refresh 89 = .ok (.iconst (-1), 1) := by decide +kernel
theorem dX0_refresh_90 : decode cX0_refresh 90 = .ok (.putfield 24, 3) := by decide +kernel
theorem dX0_refresh_93 : decode cX0_refresh 93 = .ok (.iconst 0, 1) := by decide +kernel
theorem dX0_refresh_94 : decode cX0_refresh 94 = .ok (.istore_n 1, 1) := by decide +kernel
theorem dX0_refresh_95 : decode cX0_refresh 95 = .ok (.iload_n 1, 1) := by decide +kernel
theorem dX0_refresh_96 : decode cX0_refresh 96 = .ok (.aload_n 0, 1) := by decide +kernel
theorem dX0_refresh_97 : decode cX0_refresh 97 = .ok (.getfield 34, 3) := by decide +kernel
theorem dX0_refresh_100 : decode cX0_refresh 100 = .ok (.getfield 58, 3) := by decide +kernel
theorem dX0_refresh_103 : decode cX0_refresh 103 = .ok (.if_icmp .ge 54, 3) := by decide +kernel
theorem dX0_refresh_106 : decode cX0_refresh 106 = .ok (.aload_n 0, 1) := by decide +kernel
theorem dX0_refresh_107 : decode cX0_refresh 107 = .ok (.iload_n 1, 1) := by decide +kernel
theorem dX0_refresh_108 : decode cX0_refresh 108 = .ok (.invokevirtual 61, 3) := by decide +kernel
theorem dX0_refresh_111 : decode cX0_refresh 111 = .ok (.aload_n 0, 1) := by decide +kernel
theorem dX0_refresh_112 : decode cX0_refresh 112 = .ok (.dup, 1) := by decide +kernel
theorem dX0_refresh_113 : decode cX0_refresh 113 = .ok (.getfield 55, 3) := by decide +kernel
theorem dX0_refresh_116 : decode cX0_refresh 116 = .ok (.aload_n 0, 1) := by decide +kernel
theorem dX0_refresh_117 : decode cX0_refresh 117 = .ok (.getfield 18, 3) := by decide +kernel
theorem dX0_refresh_120 : decode cX0_refresh 120 = .ok (.iload_n 1, 1) := by decide +kernel
theorem dX0_refresh_121 : decode cX0_refresh 121 = .ok (.iaload, 1) := by decide +kernel
theorem dX0_refresh_122 : decode cX0_refresh 122 = .ok (.invokestatic 64, 3) := by decide +kernel
theorem dX0_refresh_125 : decode cX0_refresh 125 = .ok (.iadd, 1) := by decide +kernel
theorem dX0_refresh_126 : decode cX0_refresh 126 = .ok (.putfield 55, 3) := by decide +kernel
theorem dX0_refresh_129 : decode cX0_refresh 129 = .ok (.aload_n 0, 1) := by decide +kernel
theorem dX0_refresh_130 : decode cX0_refresh 130 = .ok (.getfield 24, 3) := by decide +kernel
theorem dX0_refresh_133 : decode cX0_refresh 133 = .ok (.iconst (-1), 1) := by decide +kernel
theorem dX0_refresh_134 : decode cX0_refresh 134 = .ok (.if_icmp .ne 17, 3) := by decide +kernel
theorem dX0_refresh_137 : decode cX0_refresh 137 = .ok (.aload_n 0, 1) := by decide +kernel
theorem dX0_refresh_138 : decode cX0_refresh 138 = .ok (.getfield 18, 3) := by decide +kernel
theorem dX0_refresh_141 : decode cX0_refresh 141 = .ok (.iload_n 1, 1) := by decide +kernel
theorem dX0_refresh_142 : decode cX0_refresh 142 = .ok (.iaload, 1) := by decide +kernel
theorem dX0_refresh_143 : decode cX0_refresh 143 = .ok (.ifCond .ne 8, 3) := by decide +kernel
theorem dX0_refresh_146 : decode cX0_refresh 146 = .ok (.aload_n 0, 1) := by decide +kernel
theorem dX0_refresh_147 : decode cX0_refresh 147 = .ok (.iload_n 1, 1) := by decide +kernel
theorem dX0_refresh_148 : decode cX0_refresh 148 = .ok (.putfield 24, 3) := by decide +kernel
theorem dX0_refresh_151 : decode cX0_refresh 151 = .ok (.iinc 1 1, 3) := by decide +kernel
theorem dX0_refresh_154 : decode cX0_refresh 154 = .ok (.goto (-59), 3) := by decide +kernel
theorem dX0_refresh_157 : decode cX0_refresh 157 = .ok (.return_, 1) := by decide +kernel
theorem dX0_addVotesOf_0 : decode cX0_addVotesOf 0 = .ok (.iconst 0, 1) := by decide +kernel
theorem dX0_addVotesOf_1 : decode cX0_addVotesOf 1 = .ok (.istore_n 2, 1) := by decide +kernel
theorem dX0_addVotesOf_2 : decode cX0_addVotesOf 2 = .ok (.iload_n 2, 1) := by decide +kernel
theorem dX0_addVotesOf_3 : decode cX0_addVotesOf 3 = .ok (.aload_n 0, 1) := by decide +kernel
theorem dX0_addVotesOf_4 : decode cX0_addVotesOf 4 = .ok (.getfield 34, 3) := by decide +kernel
theorem dX0_addVotesOf_7 : decode cX0_addVotesOf 7 = .ok (.getfield 58, 3) := by decide +kernel
theorem dX0_addVotesOf_10 : decode cX0_addVotesOf 10 = .ok (.if_icmp .ge 41, 3) := by decide +kernel
theorem dX0_addVotesOf_13 : decode cX0_addVotesOf 13 = .ok (.aload_n 0, 1) := by decide +kernel
theorem dX0_addVotesOf_14 : decode cX0_addVotesOf 14 = .ok (.getfield 15, 3) := by decide +kernel
theorem dX0_addVotesOf_17 : decode cX0_addVotesOf 17 = .ok (.iload_n 2, 1) := by decide +kernel
theorem dX0_addVotesOf_18 : decode cX0_addVotesOf 18 = .ok (.aload_n 0, 1) := by decide +kernel
theorem dX0_addVotesOf_19 : decode cX0_addVotesOf 19 = .ok (.getfield 34, 3) := by decide +kernel
theorem dX0_addVotesOf_22 : decode cX0_addVotesOf 22 = .ok (.iload_n 1, 1) := by decide +kernel
theorem dX0_addVotesOf_23 : decode cX0_addVotesOf 23 = .ok (.aload_n 0, 1) := by decide +kernel
theorem dX0_addVotesOf_24 : decode cX0_addVotesOf 24 = .ok (.getfield 34, 3) := by decide +kernel
theorem dX0_addVotesOf_27 : decode cX0_addVotesOf 27 = .ok (.getfield 70, 3) := by decide +kernel
theorem dX0_addVotesOf_30 : decode cX0_addVotesOf 30 = .ok (.iload_n 2, 1) := by decide +kernel
theorem dX0_addVotesOf_31 : decode cX0_addVotesOf 31 = .ok (.iaload, 1) := by decide +kernel
theorem dX0_addVotesOf_32 : decode cX0_addVotesOf 32 = .ok (.aload_n 0, 1) := by decide +kernel
theorem dX0_addVotesOf_33 : decode cX0_addVotesOf 33 = .ok (.getfield 34, 3) := by decide +kernel
theorem dX0_addVotesOf_36 : decode cX0_addVotesOf 36 = .ok (.getfield 73, 3) := by decide +kernel
theorem dX0_addVotesOf_39 : decode cX0_addVotesOf 39 = .ok (.iload_n 2, 1) := by decide +kernel
theorem dX0_addVotesOf_40 : decode cX0_addVotesOf 40 = .ok (.iaload, 1) := by decide +kernel
theorem dX0_addVotesOf_41 : decode cX0_addVotesOf 41 = .ok (.invokevirtual 76, 3) := by decide +kernel
theorem dX0_addVotesOf_44 : decode cX0_addVotesOf 44 = .ok (.iastore, 1) := by decide +kernel
theorem dX0_addVotesOf_45 : decode cX0_addVotesOf 45 = .ok (.iinc 2 1, 3) := by decide +kernel
theorem dX0_addVotesOf_48 : decode cX0_addVotesOf 48 = .ok (.goto (-46), 3) := by decide +kernel
theorem dX0_addVotesOf_51 : decode cX0_addVotesOf 51 = .ok (.iconst 0, 1) := by decide +kernel
theorem dX0_addVotesOf_52 : decode cX0_addVotesOf 52 = .ok (.istore_n 2, 1) := by decide +kernel
theorem dX0_addVotesOf_53 : decode cX0_addVotesOf 53 = .ok (.iload_n 2, 1) := by decide +kernel
theorem dX0_addVotesOf_54 : decode cX0_addVotesOf 54 = .ok (.aload_n 0, 1) := by decide +kernel
theorem dX0_addVotesOf_55 : decode cX0_addVotesOf 55 = .ok (.getfield 34, 3) := by decide +kernel
theorem dX0_addVotesOf_58 : decode cX0_addVotesOf 58 = .ok (.getfield 58, 3) := by decide +kernel
theorem dX0_addVotesOf_61 : decode cX0_addVotesOf 61 = .ok (.if_icmp .ge 66, 3) := by decide +kernel
theorem dX0_addVotesOf_64 : decode cX0_addVotesOf 64 = .ok (.iconst 0, 1) := by decide +kernel
theorem dX0_addVotesOf_65 : decode cX0_addVotesOf 65 = .ok (.istore_n 3, 1) := by decide +kernel
theorem dX0_addVotesOf_66 : decode cX0_addVotesOf 66 = .ok (.iload_n 3, 1) := by decide +kernel
theorem dX0_addVotesOf_67 : decode cX0_addVotesOf 67 = .ok (.aload_n 0, 1) := by decide +kernel
theorem dX0_addVotesOf_68 : decode cX0_addVotesOf 68 = .ok (.getfield 34, 3) := by decide +kernel
theorem dX0_addVotesOf_71 : decode cX0_addVotesOf 71 = .ok (.getfield 58, 3) := by decide +kernel
theorem dX0_addVotesOf_74 : decode cX0_addVotesOf 74 = .ok (.if_icmp .ge 47, 3) := by decide +kernel
theorem dX0_addVotesOf_77 : decode cX0_addVotesOf 77 = .ok (.aload_n 0, 1) := by decide +kernel
theorem dX0_addVotesOf_78 : decode cX0_addVotesOf 78 = .ok (.getfield 15, 3) := by decide +kernel
theorem dX0_addVotesOf_81 : decode cX0_addVotesOf 81 = .ok (.iload_n 2, 1) := by decide +kernel
theorem dX0_addVotesOf_82 : decode cX0_addVotesOf 82 = .ok (.iaload, 1) := by decide +kernel
theorem dX0_addVotesOf_83 : decode cX0_addVotesOf 83 = .ok (.aload_n 0, 1) := by decide +kernel
theorem dX0_addVotesOf_84 : decode cX0_addVotesOf 84 = .ok (.getfield 15, 3) := by decide +kernel
theorem dX0_addVotesOf_87 : decode cX0_addVotesOf 87 = .ok (.iload_n 3, 1) := by decide +kernel
theorem dX0_addVotesOf_88 : decode cX0_addVotesOf 88 = .ok (.iaload, 1) := by decide +kernel
theorem dX0_addVotesOf_89 : decode cX0_addVotesOf 89 = .ok (.if_icmp .ge 26, 3) := by decide +kernel
theorem dX0_addVotesOf_92 : decode cX0_addVotesOf 92 = .ok (.aload_n 0, 1) := by decide +kernel
theorem dX0_addVotesOf_93 : decode cX0_addVotesOf 93 = .ok (.getfield 9, 3) := by decide +kernel
theorem dX0_addVotesOf_96 : decode cX0_addVotesOf 96 = .ok (.iload_n 2, 1) := by decide +kernel
theorem dX0_addVotesOf_97 : decode cX0_addVotesOf 97 = .ok (.bipush 20, 2) := by decide +kernel
theorem dX0_addVotesOf_99 : decode cX0_addVotesOf 99 = .ok (.imul, 1) := by decide +kernel
theorem dX0_addVotesOf_100 : decode cX0_addVotesOf 100 = .ok (.iload_n 3, 1) := by decide +kernel
theorem dX0_addVotesOf_101 : decode cX0_addVotesOf 101 = .ok (.iadd, 1) := by decide +kernel
theorem dX0_addVotesOf_102 : decode cX0_addVotesOf 102 = .ok (.dup2, 1) := by decide +kernel
theorem dX0_addVotesOf_103 : decode cX0_addVotesOf 103 = .ok (.iaload, 1) := by decide +kernel
theorem dX0_addVotesOf_104 : decode cX0_addVotesOf 104 = .ok (.aload_n 0, 1) := by decide +kernel
theorem dX0_addVotesOf_105 : decode cX0_addVotesOf 105 = .ok (.getfield 34, 3) := by decide +kernel
theorem dX0_addVotesOf_108 : decode cX0_addVotesOf 108 = .ok (.getfield 80, 3) := by decide +kernel
theorem dX0_addVotesOf_111 : decode cX0_addVotesOf 111 = .ok (.iload_n 1, 1) := by decide +kernel
theorem dX0_addVotesOf_112 : decode cX0_addVotesOf 112 = .ok (.iaload, 1) := by decide +kernel
theorem dX0_addVotesOf_113 : decode cX0_addVotesOf 113 = .ok (.iadd, 1) := by decide +kernel
theorem dX0_addVotesOf_114 : decode cX0_addVotesOf 114 = .ok (.iastore, 1) := by decide +kernel
theorem dX0_addVotesOf_115 : decode cX0_addVotesOf 115 = .ok (.iinc 3 1, 3) := by decide +kernel
theorem dX0_addVotesOf_118 : decode cX0_addVotesOf 118 = .ok (.goto (-52), 3) := by decide +kernel
theorem dX0_addVotesOf_121 : decode cX0_addVotesOf 121 = .ok (.iinc 2 1, 3) := by decide +kernel
theorem dX0_addVotesOf_124 : decode cX0_addVotesOf 124 = .ok (.goto (-71), 3) := by decide +kernel
theorem dX0_addVotesOf_127 : decode cX0_addVotesOf 127 = .ok (.return_, 1) := by decide +kernel
theorem dX0_findBeaters_0 : decode cX0_findBeaters 0 = .ok (.aload_n 0, 1) := by decide +kernel
theorem dX0_findBeaters_1 : decode cX0_findBeaters 1 = .ok (.getfield 18, 3) := by decide +kernel
theorem dX0_findBeaters_4 : decode cX0_findBeaters 4 = .ok (.iload_n 1, 1) := by decide +kernel
theorem dX0_findBeaters_5 : decode cX0_findBeaters 5 = .ok (.iconst 0, 1) := by decide +kernel
theorem dX0_findBeaters_6 : decode cX0_findBeaters 6 = .ok (.iastore, 1) := by decide +kernel
theorem dX0_findBeaters_7 : decode cX0_findBeaters 7 = .ok (.iconst 0, 1) := by decide +kernel
theorem dX0_findBeaters_8 : decode cX0_findBeaters 8 = .ok (.istore_n 2, 1) := by decide +kernel
theorem dX0_findBeaters_9 : decode cX0_findBeaters 9 = .ok (.iload_n 2, 1) := by decide +kernel
theorem dX0_findBeaters_10 : decode cX0_findBeaters 10 = .ok (.aload_n 0, 1) := by decide +kernel
theorem dX0_findBeaters_11 : decode cX0_findBeaters 11 = .ok (.getfield 34, 3) := by decide +kernel
theorem dX0_findBeaters_14 : decode cX0_findBeaters 14 = .ok (.getfield 58, 3) := by decide +kernel
theorem dX0_findBeaters_17 : decode cX0_findBeaters 17 = .ok (.if_icmp .ge 48, 3) := by decide +kernel
theorem dX0_findBeaters_20 : decode cX0_findBeaters 20 = .ok (.iload_n 2, 1) := by decide +kernel
theorem dX0_findBeaters_21 : decode cX0_findBeaters 21 = .ok (.iload_n 1, 1) := by decide +kernel
theorem dX0_findBeaters_22 : decode cX0_findBeaters 22 = .ok (.if_icmp .eq 37, 3) := by decide +kernel
theorem dX0_findBeaters_25 : decode cX0_findBeaters 25 = .ok (.aload_n 0, 1) := by decide +kernel
theorem dX0_findBeaters_26 : decode cX0_findBeaters 26 = .ok (.getfield 34, 3) := by decide +kernel
theorem dX0_findBeaters_29 : decode cX0_findBeaters 29 = .ok (.aload_n 0, 1) := by decide +kernel
theorem dX0_findBeaters_30 : decode cX0_findBeaters 30 = .ok (.iload_n 2, 1) := by decide +kernel
theorem dX0_findBeaters_31 : decode cX0_findBeaters 31 = .ok (.iload_n 1, 1) := by decide +kernel
theorem dX0_findBeaters_32 : decode cX0_findBeaters 32 = .ok (.invokevirtual 83, 3) := by decide +kernel
theorem dX0_findBeaters_35 : decode cX0_findBeaters 35 = .ok (.aload_n 0, 1) := by decide +kernel
theorem dX0_findBeaters_36 : decode cX0_findBeaters 36 = .ok (.iload_n 1, 1) := by decide +kernel
theorem dX0_findBeaters_37 : decode cX0_findBeaters 37 = .ok (.iload_n 2, 1) := by decide +kernel
theorem dX0_findBeaters_38 : decode cX0_findBeaters 38 = .ok (.invokevirtual 83, 3) := by decide +kernel
theorem dX0_findBeaters_41 : decode cX0_findBeaters 41 = .ok (.invokevirtual 87, 3) := by decide +kernel
theorem dX0_findBeaters_44 : decode cX0_findBeaters 44 = .ok (.ifCond .eq 15, 3) := by decide +kernel
theorem dX0_findBeaters_47 : decode cX0_findBeaters 47 = .ok (.aload_n 0, 1) := by decide +kernel
theorem dX0_findBeaters_48 : decode cX0_findBeaters 48 = .ok (.getfield 18, 3) := by decide +kernel
theorem dX0_findBeaters_51 : decode cX0_findBeaters 51 = .ok (.iload_n 1, 1) := by decide +kernel
theorem dX0_findBeaters_52 : decode cX0_findBeaters 52 = .ok (.dup2, 1) := by decide +kernel
theorem dX0_findBeaters_53 : decode cX0_findBeaters 53 = .ok (.iaload, 1) := by decide +kernel
theorem dX0_findBeaters_54 : decode cX0_findBeaters 54 = .ok (.iconst 1, 1) := by decide +kernel
theorem dX0_findBeaters_55 : decode cX0_findBeaters 55 = .ok (.iload_n 2, 1) := by decide +kernel
theorem dX0_findBeaters_56 : decode cX0_findBeaters 56 = .ok (.ishl, 1) := by decide +kernel
theorem dX0_findBeaters_57 : decode cX0_findBeaters 57 = .ok (.ior, 1) := by decide +kernel
theorem dX0_findBeaters_58 : decode cX0_findBeaters 58 = .ok (.iastore, 1) := by decide +kernel
theorem dX0_findBeaters_59 : decode cX0_findBeaters 59 = .ok (.iinc 2 1, 3) := by decide +kernel
theorem dX0_findBeaters_62 : decode cX0_findBeaters 62 = .ok (.goto (-53), 3) := by decide +kernel
theorem dX0_findBeaters_65 : decode cX0_findBeaters 65 = .ok (.return_, 1) := by decide +kernel
theorem dX0_forOf_0 : decode cX0_forOf 0 = .ok (.aload_n 0, 1) := by decide +kernel
theorem dX0_forOf_1 : decode cX0_forOf 1 = .ok (.getfield 9, 3) := by decide +kernel
theorem dX0_forOf_4 : decode cX0_forOf 4 = .ok (.iload_n 1, 1) := by decide +kernel
theorem dX0_forOf_5 : decode cX0_forOf 5 = .ok (.bipush 20, 2) := by decide +kernel
theorem dX0_forOf_7 : decode cX0_forOf 7 = .ok (.imul, 1) := by decide +kernel
theorem dX0_forOf_8 : decode cX0_forOf 8 = .ok (.iload_n 2, 1) := by decide +kernel
theorem dX0_forOf_9 : decode cX0_forOf 9 = .ok (.iadd, 1) := by decide +kernel
theorem dX0_forOf_10 : decode cX0_forOf 10 = .ok (.iaload, 1) := by decide +kernel
theorem dX0_forOf_11 : decode cX0_forOf 11 = .ok (.ireturn, 1) := by decide +kernel
theorem dX0_isBeaten_0 : decode cX0_isBeaten 0 = .ok (.aload_n 0, 1) := by decide +kernel
theorem dX0_isBeaten_1 : decode cX0_isBeaten 1 = .ok (.getfield 18, 3) := by decide +kernel
theorem dX0_isBeaten_4 : decode cX0_isBeaten 4 = .ok (.iload_n 1, 1) := by decide +kernel
theorem dX0_isBeaten_5 : decode cX0_isBeaten 5 = .ok (.iaload, 1) := by decide +kernel
theorem dX0_isBeaten_6 : decode cX0_isBeaten 6 = .ok (.iload_n 2, 1) := by decide +kernel
theorem dX0_isBeaten_7 : decode cX0_isBeaten 7 = .ok (.ishr, 1) := by decide +kernel
theorem dX0_isBeaten_8 : decode cX0_isBeaten 8 = .ok (.iconst 1, 1) := by decide +kernel
theorem dX0_isBeaten_9 : decode cX0_isBeaten 9 = .ok (.iand, 1) := by decide +kernel
theorem dX0_isBeaten_10 : decode cX0_isBeaten 10 = .ok (.iconst 1, 1) := by decide +kernel
theorem dX0_isBeaten_11 : decode cX0_isBeaten 11 = .ok (.if_icmp .ne 7, 3) := by decide +kernel
theorem dX0_isBeaten_14 : decode cX0_isBeaten 14 = .ok (.iconst 1, 1) := by decide +kernel
theorem dX0_isBeaten_15 : decode cX0_isBeaten 15 = .ok (.goto 4, 3) := by decide +kernel
theorem dX0_isBeaten_18 : decode cX0_isBeaten 18 = .ok (.iconst 0, 1) := by decide +kernel
theorem dX0_isBeaten_19 : decode cX0_isBeaten 19 = .ok (.ireturn, 1) := by decide +kernel
theorem dX0_greatestAgainst_0 : decode cX0_greatestAgainst 0 = .ok (.iconst 0, 1) := by decide +kernel
theorem dX0_greatestAgainst_1 : decode cX0_greatestAgainst 1 = .ok (.istore_n 2, 1) := by decide +kernel
theorem dX0_greatestAgainst_2 : decode cX0_greatestAgainst 2 = .ok (.iconst 0, 1) := by decide +kernel
theorem dX0_greatestAgainst_3 : decode cX0_greatestAgainst 3 = .ok (.istore_n 3, 1) := by decide +kernel
theorem dX0_greatestAgainst_4 : decode cX0_greatestAgainst 4 = .ok (.iload_n 3, 1) := by decide +kernel
theorem dX0_greatestAgainst_5 : decode cX0_greatestAgainst 5 = .ok (.aload_n 0, 1) := by decide +kernel
theorem dX0_greatestAgainst_6 : decode cX0_greatestAgainst 6 = .ok (.getfield 34, 3) := by decide +kernel
theorem dX0_greatestAgainst_9 : decode cX0_greatestAgainst 9 = .ok (.getfield 58, 3) := by decide +kernel
theorem dX0_greatestAgainst_12 : decode cX0_greatestAgainst 12 = .ok (.if_icmp .ge 25, 3) := by decide +kernel
theorem dX0_greatestAgainst_15 : decode cX0_greatestAgainst 15 = .ok (.iload_n 3, 1) := by decide +kernel
theorem dX0_greatestAgainst_16 : decode cX0_greatestAgainst 16 = .ok (.iload_n 1, 1) := by decide +kernel
theorem dX0_greatestAgainst_17 : decode cX0_greatestAgainst 17 = .ok (.if_icmp .eq 14, 3) := by decide +kernel
theorem dX0_greatestAgainst_20 : decode cX0_greatestAgainst 20 = .ok (.iload_n 2, 1) := by decide +kernel
theorem dX0_greatestAgainst_21 : decode cX0_greatestAgainst 21 = .ok (.aload_n 0, 1) := by decide +kernel
theorem dX0_greatestAgainst_22 : decode cX0_greatestAgainst 22 = .ok (.iload_n 3, 1) := by decide +kernel
theorem dX0_greatestAgainst_23 : decode cX0_greatestAgainst 23 = .ok (.iload_n 1, 1) := by decide +kernel
theorem dX0_greatestAgainst_24 : decode cX0_greatestAgainst 24 = .ok (.invokevirtual 83, 3) := by decide +kernel
theorem dX0_greatestAgainst_27 : decode cX0_greatestAgainst 27 = .ok (.invokestatic 91, 3) := by decide +kernel
theorem dX0_greatestAgainst_30 : decode cX0_greatestAgainst 30 = .ok (.istore_n 2, 1) := by decide +kernel
theorem dX0_greatestAgainst_31 : decode cX0_greatestAgainst 31 = .ok (.iinc 3 1, 3) := by decide +kernel
theorem dX0_greatestAgainst_34 : decode cX0_greatestAgainst 34 = .ok (.goto (-30), 3) := by decide +kernel
theorem dX0_greatestAgainst_37 : decode cX0_greatestAgainst 37 = .ok (.iload_n 2, 1) := by decide +kernel
theorem dX0_greatestAgainst_38 : decode cX0_greatestAgainst 38 = .ok (.ireturn, 1) := by decide +kernel
theorem dX0_leastNeedy_0 : decode cX0_leastNeedy 0 = .ok (.iconst 0, 1) := by decide +kernel
theorem dX0_leastNeedy_1 : decode cX0_leastNeedy 1 = .ok (.istore_n 1, 1) := by decide +kernel
theorem dX0_leastNeedy_2 : decode cX0_leastNeedy 2 = .ok (.iconst 1, 1) := by decide +kernel
theorem dX0_leastNeedy_3 : decode cX0_leastNeedy 3 = .ok (.istore_n 2, 1) := by decide +kernel
theorem dX0_leastNeedy_4 : decode cX0_leastNeedy 4 = .ok (.iload_n 2, 1) := by decide +kernel
theorem dX0_leastNeedy_5 : decode cX0_leastNeedy 5 = .ok (.aload_n 0, 1) := by decide +kernel
theorem dX0_leastNeedy_6 : decode cX0_leastNeedy 6 = .ok (.getfield 34, 3) := by decide +kernel
theorem dX0_leastNeedy_9 : decode cX0_leastNeedy 9 = .ok (.getfield 58, 3) := by decide +kernel
theorem dX0_leastNeedy_12 : decode cX0_leastNeedy 12 = .ok (.if_icmp .ge 24, 3) := by decide +kernel
theorem dX0_leastNeedy_15 : decode cX0_leastNeedy 15 = .ok (.aload_n 0, 1) := by decide +kernel
theorem dX0_leastNeedy_16 : decode cX0_leastNeedy 16 = .ok (.iload_n 2, 1) := by decide +kernel
theorem dX0_leastNeedy_17 : decode cX0_leastNeedy 17 = .ok (.invokevirtual 96, 3) := by decide +kernel
theorem dX0_leastNeedy_20 : decode cX0_leastNeedy 20 = .ok (.aload_n 0, 1) := by decide +kernel
theorem dX0_leastNeedy_21 : decode cX0_leastNeedy 21 = .ok (.iload_n 1, 1) := by decide +kernel
theorem dX0_leastNeedy_22 : decode cX0_leastNeedy 22 = .ok (.invokevirtual 96, 3) := by decide +kernel
theorem dX0_leastNeedy_25 : decode cX0_leastNeedy 25 = .ok (.if_icmp .ge 5, 3) := by decide +kernel
theorem dX0_leastNeedy_28 : decode cX0_leastNeedy 28 = .ok (.iload_n 2, 1) := by decide +kernel
theorem dX0_leastNeedy_29 : decode cX0_leastNeedy 29 = .ok (.istore_n 1, 1) := by decide +kernel
theorem dX0_leastNeedy_30 : decode cX0_leastNeedy 30 = .ok (.iinc 2 1, 3) := by decide +kernel
theorem dX0_leastNeedy_33 : decode cX0_leastNeedy 33 = .ok (.goto (-29), 3) := by decide +kernel
theorem dX0_leastNeedy_36 : decode cX0_leastNeedy 36 = .ok (.iload_n 1, 1) := by decide +kernel
theorem dX0_leastNeedy_37 : decode cX0_leastNeedy 37 = .ok (.ireturn, 1) := by decide +kernel
theorem dX0_measureSteps_0 : decode cX0_measureSteps 0 = .ok (.aload_n 0, 1) := by decide +kernel
theorem dX0_measureSteps_1 : decode cX0_measureSteps 1 = .ok (.getfield 21, 3) := by decide +kernel
theorem dX0_measureSteps_4 : decode cX0_measureSteps 4 = .ok (.iconst (-1), 1) := by decide +kernel
theorem dX0_measureSteps_5 : decode cX0_measureSteps 5 = .ok (.invokestatic 42, 3) := by decide +kernel
theorem dX0_measureSteps_8 : decode cX0_measureSteps 8 = .ok (.aload_n 0, 1) := by decide +kernel
theorem dX0_measureSteps_9 : decode cX0_measureSteps 9 = .ok (.getfield 21, 3) := by decide +kernel
theorem dX0_measureSteps_12 : decode cX0_measureSteps 12 = .ok (.iload_n 1, 1) := by decide +kernel
theorem dX0_measureSteps_13 : decode cX0_measureSteps 13 = .ok (.iconst 0, 1) := by decide +kernel
theorem dX0_measureSteps_14 : decode cX0_measureSteps 14 = .ok (.iastore, 1) := by decide +kernel
theorem dX0_measureSteps_15 : decode cX0_measureSteps 15 = .ok (.iconst 1, 1) := by decide +kernel
theorem dX0_measureSteps_16 : decode cX0_measureSteps 16 = .ok (.iload_n 1, 1) := by decide +kernel
theorem dX0_measureSteps_17 : decode cX0_measureSteps 17 = .ok (.ishl, 1) := by decide +kernel
theorem dX0_measureSteps_18 : decode cX0_measureSteps 18 = .ok (.istore_n 2, 1) := by decide +kernel
theorem dX0_measureSteps_19 : decode cX0_measureSteps 19 = .ok (.iconst 1, 1) := by decide +kernel
theorem dX0_measureSteps_20 : decode cX0_measureSteps 20 = .ok (.istore_n 3, 1) := by decide +kernel
theorem dX0_measureSteps_21 : decode cX0_measureSteps 21 = .ok (.iload_n 3, 1) := by decide +kernel
theorem dX0_measureSteps_22 : decode cX0_measureSteps 22 = .ok (.aload_n 0, 1) := by decide +kernel
theorem dX0_measureSteps_23 : decode cX0_measureSteps 23 = .ok (.getfield 34, 3) := by decide +kernel
theorem dX0_measureSteps_26 : decode cX0_measureSteps 26 = .ok (.getfield 58, 3) := by decide +kernel
theorem dX0_measureSteps_29 : decode cX0_measureSteps 29 = .ok (.if_icmp .ge 72, 3) := by decide +kernel
theorem dX0_measureSteps_32 : decode cX0_measureSteps 32 = .ok (.iload_n 2, 1) := by decide +kernel
theorem dX0_measureSteps_33 : decode cX0_measureSteps 33 = .ok (.istore 4, 2) := by decide +kernel
theorem dX0_measureSteps_35 : decode cX0_measureSteps 35 = .ok (.iconst 0, 1) := by decide +kernel
theorem dX0_measureSteps_36 : decode cX0_measureSteps 36 = .ok (.istore 5, 2) := by decide +kernel
theorem dX0_measureSteps_38 : decode cX0_measureSteps 38 = .ok (.iload 5, 2) := by decide +kernel
theorem dX0_measureSteps_40 : decode cX0_measureSteps 40 = .ok (.aload_n 0, 1) := by decide +kernel
theorem dX0_measureSteps_41 : decode cX0_measureSteps 41 = .ok (.getfield 34, 3) := by decide +kernel
theorem dX0_measureSteps_44 : decode cX0_measureSteps 44 = .ok (.getfield 58, 3) := by decide +kernel
theorem dX0_measureSteps_47 : decode cX0_measureSteps 47 = .ok (.if_icmp .ge 48, 3) := by decide +kernel
theorem dX0_measureSteps_50 : decode cX0_measureSteps 50 = .ok (.aload_n 0, 1) := by decide +kernel
theorem dX0_measureSteps_51 : decode cX0_measureSteps 51 = .ok (.getfield 21, 3) := by decide +kernel
theorem dX0_measureSteps_54 : decode cX0_measureSteps 54 = .ok (.iload 5, 2) := by decide +kernel
theorem dX0_measureSteps_56 : decode cX0_measureSteps 56 = .ok (.iaload, 1) := by decide +kernel
theorem dX0_measureSteps_57 : decode cX0_measureSteps 57 = .ok (.iconst (-1), 1) := by decide +kernel
theorem dX0_measureSteps_58 : decode cX0_measureSteps 58 = .ok (.if_icmp .ne 31, 3) := by decide +kernel
theorem dX0_measureSteps_61 : decode cX0_measureSteps 61 = .ok (.aload_n 0, 1) := by decide +kernel
theorem dX0_measureSteps_62 : decode cX0_measureSteps 62 = .ok (.getfield 18, 3) := by decide +kernel
theorem dX0_measureSteps_65 : decode cX0_measureSteps 65 = .ok (.iload 5, 2) := by decide +kernel
theorem dX0_measureSteps_67 : decode cX0_measureSteps 67 = .ok (.iaload, 1) := by decide +kernel
theorem dX0_measureSteps_68 : decode cX0_measureSteps 68 = .ok (.iload 4, 2) := by decide +kernel
theorem dX0_measureSteps_70 : decode cX0_measureSteps 70 = .ok (.iand, 1) := by decide +kernel
theorem dX0_measureSteps_71 : decode cX0_measureSteps 71 = .ok (.ifCond .eq 18, 3) := by decide +kernel
theorem dX0_measureSteps_74 : decode cX0_measureSteps 74 = .ok (.aload_n 0, 1) := by decide +kernel
theorem dX0_measureSteps_75 : decode cX0_measureSteps 75 = .ok (.getfield 21, 3) := by decide +kernel
theorem dX0_measureSteps_78 : decode cX0_measureSteps 78 = .ok (.iload 5, 2) := by decide +kernel
theorem dX0_measureSteps_80 : decode cX0_measureSteps 80 = .ok (.iload_n 3, 1) := by decide +kernel
theorem dX0_measureSteps_81 : decode cX0_measureSteps 81 = .ok (.iastore, 1) := by decide +kernel
theorem dX0_measureSteps_82 : decode cX0_measureSteps 82 = .ok (.iload_n 2, 1) := by decide +kernel
theorem dX0_measureSteps_83 : decode cX0_measureSteps 83 = .ok (.iconst 1, 1) := by decide +kernel
theorem dX0_measureSteps_84 : decode cX0_measureSteps 84 = .ok (.iload 5, 2) := by decide +kernel
theorem dX0_measureSteps_86 : decode cX0_measureSteps 86 = .ok (.ishl, 1) := by decide +kernel
theorem dX0_measureSteps_87 : decode cX0_measureSteps 87 = .ok (.ior, 1) := by decide +kernel
theorem dX0_measureSteps_88 : decode cX0_measureSteps 88 = .ok (.istore_n 2, 1) := by decide +kernel
theorem dX0_measureSteps_89 : decode cX0_measureSteps 89 = .ok (.iinc 5 1, 3) := by decide +kernel
theorem dX0_measureSteps_92 : decode cX0_measureSteps 92 = .ok (.goto (-54), 3) := by decide +kernel
theorem dX0_measureSteps_95 : decode cX0_measureSteps 95 = .ok (.iinc 3 1, 3) := by decide +kernel
theorem dX0_measureSteps_98 : decode cX0_measureSteps 98 = .ok (.goto (-77), 3) := by decide +kernel
theorem dX0_measureSteps_101 : decode cX0_measureSteps 101 = .ok (.iload_n 2, 1) := by decide +kernel
theorem dX0_measureSteps_102 : decode cX0_measureSteps 102 = .ok (.ireturn, 1) := by decide +kernel
theorem dX0_walk_0 : decode cX0_walk 0 = .ok (.iload_n 1, 1) := by decide +kernel
theorem dX0_walk_1 : decode cX0_walk 1 = .ok (.istore_n 3, 1) := by decide +kernel
theorem dX0_walk_2 : decode cX0_walk 2 = .ok (.iconst 0, 1) := by decide +kernel
theorem dX0_walk_3 : decode cX0_walk 3 = .ok (.istore 4, 2) := by decide +kernel
theorem dX0_walk_5 : decode cX0_walk 5 = .ok (.iload 4, 2) := by decide +kernel
theorem dX0_walk_7 : decode cX0_walk 7 = .ok (.iload_n 2, 1) := by decide +kernel
theorem dX0_walk_8 : decode cX0_walk 8 = .ok (.if_icmp .ge 15, 3) := by decide +kernel
theorem dX0_walk_11 : decode cX0_walk 11 = .ok (.aload_n 0, 1) := by decide +kernel
theorem dX0_walk_12 : decode cX0_walk 12 = .ok (.iload_n 3, 1) := by decide +kernel
theorem dX0_walk_13 : decode cX0_walk 13 = .ok (.invokevirtual 99, 3) := by decide +kernel
theorem dX0_walk_16 : decode cX0_walk 16 = .ok (.istore_n 3, 1) := by decide +kernel
theorem dX0_walk_17 : decode cX0_walk 17 = .ok (.iinc 4 1, 3) := by decide +kernel
theorem dX0_walk_20 : decode cX0_walk 20 = .ok (.goto (-15), 3) := by decide +kernel
theorem dX0_walk_23 : decode cX0_walk 23 = .ok (.iload_n 3, 1) := by decide +kernel
theorem dX0_walk_24 : decode cX0_walk 24 = .ok (.ireturn, 1) := by decide +kernel
theorem dX0_nextFrom_0 : decode cX0_nextFrom 0 = .ok (.iconst 0, 1) := by decide +kernel
theorem dX0_nextFrom_1 : decode cX0_nextFrom 1 = .ok (.istore_n 2, 1) := by decide +kernel
theorem dX0_nextFrom_2 : decode cX0_nextFrom 2 = .ok (.iload_n 2, 1) := by decide +kernel
theorem dX0_nextFrom_3 : decode cX0_nextFrom 3 = .ok (.aload_n 0, 1) := by decide +kernel
theorem dX0_nextFrom_4 : decode cX0_nextFrom 4 = .ok (.getfield 34, 3) := by decide +kernel
theorem dX0_nextFrom_7 : decode cX0_nextFrom 7 = .ok (.getfield 58, 3) := by decide +kernel
theorem dX0_nextFrom_10 : decode cX0_nextFrom 10 = .ok (.if_icmp .ge 37, 3) := by decide +kernel
theorem dX0_nextFrom_13 : decode cX0_nextFrom 13 = .ok (.aload_n 0, 1) := by decide +kernel
theorem dX0_nextFrom_14 : decode cX0_nextFrom 14 = .ok (.iload_n 1, 1) := by decide +kernel
theorem dX0_nextFrom_15 : decode cX0_nextFrom 15 = .ok (.iload_n 2, 1) := by decide +kernel
theorem dX0_nextFrom_16 : decode cX0_nextFrom 16 = .ok (.invokevirtual 102, 3) := by decide +kernel
theorem dX0_nextFrom_19 : decode cX0_nextFrom 19 = .ok (.ifCond .eq 22, 3) := by decide +kernel
theorem dX0_nextFrom_22 : decode cX0_nextFrom 22 = .ok (.aload_n 0, 1) := by decide +kernel
theorem dX0_nextFrom_23 : decode cX0_nextFrom 23 = .ok (.getfield 21, 3) := by decide +kernel
theorem dX0_nextFrom_26 : decode cX0_nextFrom 26 = .ok (.iload_n 2, 1) := by decide +kernel
theorem dX0_nextFrom_27 : decode cX0_nextFrom 27 = .ok (.iaload, 1) := by decide +kernel
theorem dX0_nextFrom_28 : decode cX0_nextFrom 28 = .ok (.aload_n 0, 1) := by decide +kernel
theorem dX0_nextFrom_29 : decode cX0_nextFrom 29 = .ok (.getfield 21, 3) := by decide +kernel
theorem dX0_nextFrom_32 : decode cX0_nextFrom 32 = .ok (.iload_n 1, 1) := by decide +kernel
theorem dX0_nextFrom_33 : decode cX0_nextFrom 33 = .ok (.iaload, 1) := by decide +kernel
theorem dX0_nextFrom_34 : decode cX0_nextFrom 34 = .ok (.iconst 1, 1) := by decide +kernel
theorem dX0_nextFrom_35 : decode cX0_nextFrom 35 = .ok (.isub, 1) := by decide +kernel
theorem dX0_nextFrom_36 : decode cX0_nextFrom 36 = .ok (.if_icmp .ne 5, 3) := by decide +kernel
theorem dX0_nextFrom_39 : decode cX0_nextFrom 39 = .ok (.iload_n 2, 1) := by decide +kernel
theorem dX0_nextFrom_40 : decode cX0_nextFrom 40 = .ok (.ireturn, 1) := by decide +kernel
theorem dX0_nextFrom_41 : decode cX0_nextFrom 41 = .ok (.iinc 2 1, 3) := by decide +kernel
theorem dX0_nextFrom_44 : decode cX0_nextFrom 44 = .ok (.goto (-42), 3) := by decide +kernel
theorem dX0_nextFrom_47 : decode cX0_nextFrom 47 = .ok (.iload_n 1, 1) := by decide +kernel
theorem dX0_nextFrom_48 : decode cX0_nextFrom 48 = .ok (.ireturn, 1) := by decide +kernel
theorem dX0_reachingAll_0 : decode cX0_reachingAll 0 = .ok (.iconst 1, 1) := by decide +kernel
theorem dX0_reachingAll_1 : decode cX0_reachingAll 1 = .ok (.aload_n 0, 1) := by decide +kernel
theorem dX0_reachingAll_2 : decode cX0_reachingAll 2 = .ok (.getfield 34, 3) := by decide +kernel
theorem dX0_reachingAll_5 : decode cX0_reachingAll 5 = .ok (.getfield 58, 3) := by decide +kernel
theorem dX0_reachingAll_8 : decode cX0_reachingAll 8 = .ok (.ishl, 1) := by decide +kernel
theorem dX0_reachingAll_9 : decode cX0_reachingAll 9 = .ok (.iconst 1, 1) := by decide +kernel
theorem dX0_reachingAll_10 : decode cX0_reachingAll 10 = .ok (.isub, 1) := by decide +kernel
theorem dX0_reachingAll_11 : decode cX0_reachingAll 11 = .ok (.istore_n 1, 1) := by decide +kernel
theorem dX0_reachingAll_12 : decode cX0_reachingAll 12 = .ok (.iconst 0, 1) := by decide +kernel
theorem dX0_reachingAll_13 : decode cX0_reachingAll 13 = .ok (.istore_n 2, 1) := by decide +kernel
theorem dX0_reachingAll_14 : decode cX0_reachingAll 14 = .ok (.iconst 0, 1) := by decide +kernel
theorem dX0_reachingAll_15 : decode cX0_reachingAll 15 = .ok (.istore_n 3, 1) := by decide +kernel
theorem dX0_reachingAll_16 : decode cX0_reachingAll 16 = .ok (.iload_n 3, 1) := by decide +kernel
theorem dX0_reachingAll_17 : decode cX0_reachingAll 17 = .ok (.aload_n 0, 1) := by decide +kernel
theorem dX0_reachingAll_18 : decode cX0_reachingAll 18 = .ok (.getfield 34, 3) := by decide +kernel
theorem dX0_reachingAll_21 : decode cX0_reachingAll 21 = .ok (.getfield 58, 3) := by decide +kernel
theorem dX0_reachingAll_24 : decode cX0_reachingAll 24 = .ok (.if_icmp .ge 24, 3) := by decide +kernel
theorem dX0_reachingAll_27 : decode cX0_reachingAll 27 = .ok (.aload_n 0, 1) := by decide +kernel
theorem dX0_reachingAll_28 : decode cX0_reachingAll 28 = .ok (.iload_n 3, 1) := by decide +kernel
theorem dX0_reachingAll_29 : decode cX0_reachingAll 29 = .ok (.invokevirtual 105, 3) := by decide +kernel
theorem dX0_reachingAll_32 : decode cX0_reachingAll 32 = .ok (.iload_n 1, 1) := by decide +kernel
theorem dX0_reachingAll_33 : decode cX0_reachingAll 33 = .ok (.if_icmp .ne 9, 3) := by decide +kernel
theorem dX0_reachingAll_36 : decode cX0_reachingAll 36 = .ok (.iload_n 2, 1) := by decide +kernel
theorem dX0_reachingAll_37 : decode cX0_reachingAll 37 = .ok (.iconst 1, 1) := by decide +kernel
theorem dX0_reachingAll_38 : decode cX0_reachingAll 38 = .ok (.iload_n 3, 1) := by decide +kernel
theorem dX0_reachingAll_39 : decode cX0_reachingAll 39 = .ok (.ishl, 1) := by decide +kernel
theorem dX0_reachingAll_40 : decode cX0_reachingAll 40 = .ok (.ior, 1) := by decide +kernel
theorem dX0_reachingAll_41 : decode cX0_reachingAll 41 = .ok (.istore_n 2, 1) := by decide +kernel
theorem dX0_reachingAll_42 : decode cX0_reachingAll 42 = .ok (.iinc 3 1, 3) := by decide +kernel
theorem dX0_reachingAll_45 : decode cX0_reachingAll 45 = .ok (.goto (-29), 3) := by decide +kernel
theorem dX0_reachingAll_48 : decode cX0_reachingAll 48 = .ok (.iload_n 2, 1) := by decide +kernel
theorem dX0_reachingAll_49 : decode cX0_reachingAll 49 = .ok (.ireturn, 1) := by decide +kernel
theorem dX0_uncovered_0 : decode cX0_uncovered 0 = .ok (.iconst 0, 1) := by decide +kernel
theorem dX0_uncovered_1 : decode cX0_uncovered 1 = .ok (.istore_n 1, 1) := by decide +kernel
theorem dX0_uncovered_2 : decode cX0_uncovered 2 = .ok (.iconst 0, 1) := by decide +kernel
theorem dX0_uncovered_3 : decode cX0_uncovered 3 = .ok (.istore_n 2, 1) := by decide +kernel
theorem dX0_uncovered_4 : decode cX0_uncovered 4 = .ok (.iload_n 2, 1) := by decide +kernel
theorem dX0_uncovered_5 : decode cX0_uncovered 5 = .ok (.aload_n 0, 1) := by decide +kernel
theorem dX0_uncovered_6 : decode cX0_uncovered 6 = .ok (.getfield 34, 3) := by decide +kernel
theorem dX0_uncovered_9 : decode cX0_uncovered 9 = .ok (.getfield 58, 3) := by decide +kernel
theorem dX0_uncovered_12 : decode cX0_uncovered 12 = .ok (.if_icmp .ge 23, 3) := by decide +kernel
theorem dX0_uncovered_15 : decode cX0_uncovered 15 = .ok (.aload_n 0, 1) := by decide +kernel
theorem dX0_uncovered_16 : decode cX0_uncovered 16 = .ok (.iload_n 2, 1) := by decide +kernel
theorem dX0_uncovered_17 : decode cX0_uncovered 17 = .ok (.invokevirtual 108, 3) := by decide +kernel
theorem dX0_uncovered_20 : decode cX0_uncovered 20 = .ok (.ifCond .ne 9, 3) := by decide +kernel
theorem dX0_uncovered_23 : decode cX0_uncovered 23 = .ok (.iload_n 1, 1) := by decide +kernel
theorem dX0_uncovered_24 : decode cX0_uncovered 24 = .ok (.iconst 1, 1) := by decide +kernel
theorem dX0_uncovered_25 : decode cX0_uncovered 25 = .ok (.iload_n 2, 1) := by decide +kernel
theorem dX0_uncovered_26 : decode cX0_uncovered 26 = .ok (.ishl, 1) := by decide +kernel
theorem dX0_uncovered_27 : decode cX0_uncovered 27 = .ok (.ior, 1) := by decide +kernel
theorem dX0_uncovered_28 : decode cX0_uncovered 28 = .ok (.istore_n 1, 1) := by decide +kernel
theorem dX0_uncovered_29 : decode cX0_uncovered 29 = .ok (.iinc 2 1, 3) := by decide +kernel
theorem dX0_uncovered_32 : decode cX0_uncovered 32 = .ok (.goto (-28), 3) := by decide +kernel
theorem dX0_uncovered_35 : decode cX0_uncovered 35 = .ok (.iload_n 1, 1) := by decide +kernel
theorem dX0_uncovered_36 : decode cX0_uncovered 36 = .ok (.ireturn, 1) := by decide +kernel
theorem dX0_isCovered_0 : decode cX0_isCovered 0 = .ok (.iconst 0, 1) := by decide +kernel
theorem dX0_isCovered_1 : decode cX0_isCovered 1 = .ok (.istore_n 2, 1) := by decide +kernel
theorem dX0_isCovered_2 : decode cX0_isCovered 2 = .ok (.iload_n 2, 1) := by decide +kernel
theorem dX0_isCovered_3 : decode cX0_isCovered 3 = .ok (.aload_n 0, 1) := by decide +kernel
theorem dX0_isCovered_4 : decode cX0_isCovered 4 = .ok (.getfield 34, 3) := by decide +kernel
theorem dX0_isCovered_7 : decode cX0_isCovered 7 = .ok (.getfield 58, 3) := by decide +kernel
theorem dX0_isCovered_10 : decode cX0_isCovered 10 = .ok (.if_icmp .ge 38, 3) := by decide +kernel
theorem dX0_isCovered_13 : decode cX0_isCovered 13 = .ok (.aload_n 0, 1) := by decide +kernel
theorem dX0_isCovered_14 : decode cX0_isCovered 14 = .ok (.iload_n 1, 1) := by decide +kernel
theorem dX0_isCovered_15 : decode cX0_isCovered 15 = .ok (.iload_n 2, 1) := by decide +kernel
theorem dX0_isCovered_16 : decode cX0_isCovered 16 = .ok (.invokevirtual 102, 3) := by decide +kernel
theorem dX0_isCovered_19 : decode cX0_isCovered 19 = .ok (.ifCond .eq 23, 3) := by decide +kernel
theorem dX0_isCovered_22 : decode cX0_isCovered 22 = .ok (.aload_n 0, 1) := by decide +kernel
theorem dX0_isCovered_23 : decode cX0_isCovered 23 = .ok (.getfield 18, 3) := by decide +kernel
theorem dX0_isCovered_26 : decode cX0_isCovered 26 = .ok (.iload_n 2, 1) := by decide +kernel
theorem dX0_isCovered_27 : decode cX0_isCovered 27 = .ok (.iaload, 1) := by decide +kernel
theorem dX0_isCovered_28 : decode cX0_isCovered 28 = .ok (.aload_n 0, 1) := by decide +kernel
theorem dX0_isCovered_29 : decode cX0_isCovered 29 = .ok (.getfield 18, 3) := by decide +kernel
theorem dX0_isCovered_32 : decode cX0_isCovered 32 = .ok (.iload_n 1, 1) := by decide +kernel
theorem dX0_isCovered_33 : decode cX0_isCovered 33 = .ok (.iaload, 1) := by decide +kernel
theorem dX0_isCovered_34 : decode cX0_isCovered 34 = .ok (.iconst (-1), 1) := by decide +kernel
theorem dX0_isCovered_35 : decode cX0_isCovered 35 = .ok (.ixor, 1) := by decide +kernel
theorem dX0_isCovered_36 : decode cX0_isCovered 36 = .ok (.iand, 1) := by decide +kernel
theorem dX0_isCovered_37 : decode cX0_isCovered 37 = .ok (.ifCond .ne 5, 3) := by decide +kernel
theorem dX0_isCovered_40 : decode cX0_isCovered 40 = .ok (.iconst 1, 1) := by decide +kernel
theorem dX0_isCovered_41 : decode cX0_isCovered 41 = .ok (.ireturn, 1) := by decide +kernel
theorem dX0_isCovered_42 : decode cX0_isCovered 42 = .ok (.iinc 2 1, 3) := by decide +kernel
theorem dX0_isCovered_45 : decode cX0_isCovered 45 = .ok (.goto (-43), 3) := by decide +kernel
theorem dX0_isCovered_48 : decode cX0_isCovered 48 = .ok (.iconst 0, 1) := by decide +kernel
theorem dX0_isCovered_49 : decode cX0_isCovered 49 = .ok (.ireturn, 1) := by decide +kernel
theorem dX1_init_0 : decode cX1_init 0 = .ok (.aload_n 0, 1) := by decide +kernel
theorem dX1_init_1 : decode cX1_init 1 = .ok (.invokespecial 3, 3) := by decide +kernel
theorem dX1_init_4 : decode cX1_init 4 = .ok (.aload_n 0, 1) := by decide +kernel
theorem dX1_init_5 : decode cX1_init 5 = .ok (.sipush 10000, 3) := by decide +kernel
theorem dX1_init_8 : decode cX1_init 8 = .ok (.newarray .int, 2) := by decide +kernel
theorem dX1_init_10 : decode cX1_init 10 = .ok (.putfield 9, 3) := by decide +kernel
theorem dX1_init_13 : decode cX1_init 13 = .ok (.aload_n 0, 1) := by decide +kernel
theorem dX1_init_14 : decode cX1_init 14 = .ok (.sipush 10000, 3) := by decide +kernel
theorem dX1_init_17 : decode cX1_init 17 = .ok (.newarray .int, 2) := by decide +kernel
theorem dX1_init_19 : decode cX1_init 19 = .ok (.putfield 15, 3) := by decide +kernel
theorem dX1_init_22 : decode cX1_init 22 = .ok (.aload_n 0, 1) := by decide +kernel
theorem dX1_init_23 : decode cX1_init 23 = .ok (.sipush 10000, 3) := by decide +kernel
theorem dX1_init_26 : decode cX1_init 26 = .ok (.newarray .boolean, 2) := by decide +kernel
theorem dX1_init_28 : decode cX1_init 28 = .ok (.putfield 18, 3) := by decide +kernel
theorem dX1_init_31 : decode cX1_init 31 = .ok (.aload_n 0, 1) := by decide +kernel
theorem dX1_init_32 : decode cX1_init 32 = .ok (.sipush 10000, 3) := by decide +kernel
theorem dX1_init_35 : decode cX1_init 35 = .ok (.newarray .int, 2) := by decide +kernel
theorem dX1_init_37 : decode cX1_init 37 = .ok (.putfield 22, 3) := by decide +kernel
theorem dX1_init_40 : decode cX1_init 40 = .ok (.aload_n 0, 1) := by decide +kernel
theorem dX1_init_41 : decode cX1_init 41 = .ok (.sipush 5001, 3) := by decide +kernel
theorem dX1_init_44 : decode cX1_init 44 = .ok (.newarray .int, 2) := by decide +kernel
theorem dX1_init_46 : decode cX1_init 46 = .ok (.putfield 25, 3) := by decide +kernel
theorem dX1_init_49 : decode cX1_init 49 = .ok (.aload_n 0, 1) := by decide +kernel
theorem dX1_init_50 : decode cX1_init 50 = .ok (.iconst (-1), 1) := by decide +kernel
theorem dX1_init_51 : decode cX1_init 51 = .ok (.putfield 28, 3) := by decide +kernel
theorem dX1_init_54 : decode cX1_init 54 = .ok (.aload_n 0, 1) := by decide +kernel
theorem dX1_init_55 : decode cX1_init 55 = .ok (.iconst (-1), 1) := by decide +kernel
theorem dX1_init_56 : decode cX1_init 56 = .ok (.putfield 32, 3) := by decide +kernel
theorem dX1_init_59 : decode cX1_init 59 = .ok (.aload_n 0, 1) := by decide +kernel
theorem dX1_init_60 : decode cX1_init 60 = .ok (.iconst (-1), 1) := by decide +kernel
theorem dX1_init_61 : decode cX1_init 61 = .ok (.putfield 35, 3) := by decide +kernel
theorem dX1_init_64 : decode cX1_init 64 = .ok (.aload_n 0, 1) := by decide +kernel
theorem dX1_init_65 : decode cX1_init 65 = .ok (.aload_n 1, 1) := by decide +kernel
theorem dX1_init_66 : decode cX1_init 66 = .ok (.putfield 38, 3) := by decide +kernel
theorem dX1_init_69 : decode cX1_init 69 = .ok (.return_, 1) := by decide +kernel
theorem dX1_lookFrom_0 : decode cX1_lookFrom 0 = .ok (.iload_n 1, 1) := by decide +kernel
theorem dX1_lookFrom_1 : decode cX1_lookFrom 1 = .ok (.bipush 100, 2) := by decide +kernel
theorem dX1_lookFrom_3 : decode cX1_lookFrom 3 = .ok (.imul, 1) := by decide +kernel
theorem dX1_lookFrom_4 : decode cX1_lookFrom 4 = .ok (.iload_n 2, 1) := by decide +kernel
theorem dX1_lookFrom_5 : decode cX1_lookFrom 5 = .ok (.iadd, 1) := by decide +kernel
theorem dX1_lookFrom_6 : decode cX1_lookFrom 6 = .ok (.istore_n 3, 1) := by decide +kernel
theorem dX1_lookFrom_7 : decode cX1_lookFrom 7 = .ok (.aload_n 0, 1) := by decide +kernel
theorem dX1_lookFrom_8 : decode cX1_lookFrom 8 = .ok (.getfield 32, 3) := by decide +kernel
theorem dX1_lookFrom_11 : decode cX1_lookFrom 11 = .ok (.iload_n 3, 1) := by decide +kernel
theorem dX1_lookFrom_12 : decode cX1_lookFrom 12 = .ok (.if_icmp .ne 18, 3) := by decide +kernel
theorem dX1_lookFrom_15 : decode cX1_lookFrom 15 = .ok (.aload_n 0, 1) := by decide +kernel
theorem dX1_lookFrom_16 : decode cX1_lookFrom 16 = .ok (.getfield 35, 3) := by decide +kernel
theorem dX1_lookFrom_19 : decode cX1_lookFrom 19 = .ok (.aload_n 0, 1) := by decide +kernel
theorem dX1_lookFrom_20 : decode cX1_lookFrom 20 = .ok (.getfield 38, 3) := by decide +kernel
theorem dX1_lookFrom_23 : decode cX1_lookFrom 23 = .ok (.getfield 42, 3) := by decide +kernel
theorem dX1_lookFrom_26 : decode cX1_lookFrom 26 = .ok (.if_icmp .ne 4, 3) := by decide +kernel
theorem dX1_lookFrom_29 : decode cX1_lookFrom 29 = .ok (.return_, 1) := by decide +kernel
theorem dX1_lookFrom_30 : decode cX1_lookFrom 30 = .ok (.aload_n 0, 1) := by decide +kernel
theorem dX1_lookFrom_31 : decode cX1_lookFrom 31 = .ok (.iload_n 3, 1) := by decide +kernel
theorem dX1_lookFrom_32 : decode cX1_lookFrom 32 = .ok (.putfield 32, 3) := by decide +kernel
theorem dX1_lookFrom_35 : decode cX1_lookFrom 35 = .ok (.aload_n 0, 1) := by decide +kernel
theorem dX1_lookFrom_36 : decode cX1_lookFrom 36 = .ok (.aload_n 0, 1) := by decide +kernel
theorem dX1_lookFrom_37 : decode cX1_lookFrom 37 = .ok (.getfield 38, 3) := by decide +kernel
theorem dX1_lookFrom_40 : decode cX1_lookFrom 40 = .ok (.getfield 42, 3) := by decide +kernel
theorem dX1_lookFrom_43 : decode cX1_lookFrom 43 = .ok (.putfield 35, 3) := by decide +kernel
theorem dX1_lookFrom_46 : decode cX1_lookFrom 46 = .ok (.aload_n 0, 1) := by decide +kernel
theorem dX1_lookFrom_47 : decode cX1_lookFrom 47 = .ok (.iconst (-1), 1) := by decide +kernel
theorem dX1_lookFrom_48 : decode cX1_lookFrom 48 = .ok (.putfield 28, 3) := by decide +kernel
theorem dX1_lookFrom_51 : decode cX1_lookFrom 51 = .ok (.aload_n 0, 1) := by decide +kernel
theorem dX1_lookFrom_52 : decode cX1_lookFrom 52 = .ok (.iload_n 1, 1) := by decide +kernel
theorem dX1_lookFrom_53 : decode cX1_lookFrom 53 = .ok (.iload_n 2, 1) := by decide +kernel
theorem dX1_lookFrom_54 : decode cX1_lookFrom 54 = .ok (.invokevirtual 45, 3) := by decide +kernel
theorem dX1_lookFrom_57 : decode cX1_lookFrom 57 = .ok (.aload_n 0, 1) := by decide +kernel
theorem dX1_lookFrom_58 : decode cX1_lookFrom 58 = .ok (.iconst 0, 1) := by decide +kernel
theorem dX1_lookFrom_59 : decode cX1_lookFrom 59 = .ok (.putfield 49, 3) := by decide +kernel
theorem dX1_lookFrom_62 : decode cX1_lookFrom 62 = .ok (.aload_n 0, 1) := by decide +kernel
theorem dX1_lookFrom_63 : decode cX1_lookFrom 63 = .ok (.iconst 0, 1) := by decide +kernel
theorem dX1_lookFrom_64 : decode cX1_lookFrom 64 = .ok (.putfield 52, 3) := by decide +kernel
theorem dX1_lookFrom_67 : decode cX1_lookFrom 67 = .ok (.iconst 0, 1) := by decide +kernel
theorem dX1_lookFrom_68 : decode cX1_lookFrom 68 = .ok (.istore 4, 2) := by decide +kernel
theorem dX1_lookFrom_70 : decode cX1_lookFrom 70 = .ok (.iload 4, 2) := by decide +kernel
theorem dX1_lookFrom_72 : decode cX1_lookFrom 72 = .ok (.sipush 10000, 3) := by decide +kernel
theorem dX1_lookFrom_75 : decode cX1_lookFrom 75 = .ok (.if_icmp .ge 83, 3) := by decide +kernel
theorem dX1_lookFrom_78 : decode cX1_lookFrom 78 = .ok (.aload_n 0, 1) := by decide +kernel
theorem dX1_lookFrom_79 : decode cX1_lookFrom 79 = .ok (.getfield 18, 3) := by decide +kernel
theorem dX1_lookFrom_82 : decode cX1_lookFrom 82 = .ok (.iload 4, 2) := by decide +kernel
theorem dX1_lookFrom_84 : decode cX1_lookFrom 84 = .ok (.aload_n 0, 1) := by decide +kernel
theorem dX1_lookFrom_85 : decode cX1_lookFrom 85 = .ok (.getfield 38, 3) := by decide +kernel
theorem dX1_lookFrom_88 : decode cX1_lookFrom 88 = .ok (.aload_n 0, 1) := by decide +kernel
theorem dX1_lookFrom_89 : decode cX1_lookFrom 89 = .ok (.getfield 9, 3) := by decide +kernel
theorem dX1_lookFrom_92 : decode cX1_lookFrom 92 = .ok (.iload 4, 2) := by decide +kernel
theorem dX1_lookFrom_94 : decode cX1_lookFrom 94 = .ok (.iaload, 1) := by decide +kernel
theorem dX1_lookFrom_95 : decode cX1_lookFrom 95 = .ok (.aload_n 0, 1) := by decide +kernel
theorem dX1_lookFrom_96 : decode cX1_lookFrom 96 = .ok (.getfield 38, 3) := by decide +kernel
theorem dX1_lookFrom_99 : decode cX1_lookFrom 99 = .ok (.getfield 55, 3) := by decide +kernel
theorem dX1_lookFrom_102 : decode cX1_lookFrom 102 = .ok (.aload_n 0, 1) := by decide +kernel
theorem dX1_lookFrom_103 : decode cX1_lookFrom 103 = .ok (.getfield 15, 3) := by decide +kernel
theorem dX1_lookFrom_106 : decode cX1_lookFrom 106 = .ok (.iload 4, 2) := by decide +kernel
theorem dX1_lookFrom_108 : decode cX1_lookFrom 108 = .ok (.iaload, 1) := by decide +kernel
theorem dX1_lookFrom_109 : decode cX1_lookFrom 109 = .ok (.isub, 1) := by decide +kernel
theorem dX1_lookFrom_110 : decode cX1_lookFrom 110 = .ok (.invokevirtual 58, 3) := by decide +kernel
theorem dX1_lookFrom_113 : decode cX1_lookFrom 113 = .ok (.bastore, 1) := by decide +kernel
theorem dX1_lookFrom_114 : decode cX1_lookFrom 114 = .ok (.aload_n 0, 1) := by decide +kernel
theorem dX1_lookFrom_115 : decode cX1_lookFrom 115 = .ok (.aload_n 0, 1) := by decide +kernel
theorem dX1_lookFrom_116 : decode cX1_lookFrom 116 = .ok (.getfield 52, 3) := by decide +kernel
theorem dX1_lookFrom_119 : decode cX1_lookFrom 119 = .ok (.aload_n 0, 1) := by decide +kernel
theorem dX1_lookFrom_120 : decode cX1_lookFrom 120 = .ok (.getfield 9, 3) := by decide +kernel
theorem dX1_lookFrom_123 : decode cX1_lookFrom 123 = .ok (.iload 4, 2) := by decide +kernel
theorem dX1_lookFrom_125 : decode cX1_lookFrom 125 = .ok (.iaload, 1) := by decide +kernel
theorem dX1_lookFrom_126 : decode cX1_lookFrom 126 = .ok (.invokestatic 62, 3) := by decide +kernel
theorem dX1_lookFrom_129 : decode cX1_lookFrom 129 = .ok (.putfield 52, 3) := by decide +kernel
theorem dX1_lookFrom_132 : decode cX1_lookFrom 132 = .ok (.aload_n 0, 1) := by decide +kernel
theorem dX1_lookFrom_133 : decode cX1_lookFrom 133 = .ok (.getfield 18, 3) := by decide +kernel
theorem dX1_lookFrom_136 : decode cX1_lookFrom 136 = .ok (.iload 4, 2) := by decide +kernel
theorem dX1_lookFrom_138 : decode cX1_lookFrom 138 = .ok (.baload, 1) := by decide +kernel
theorem dX1_lookFrom_139 : decode cX1_lookFrom 139 = .ok (.ifCond .eq 13, 3) := by decide +kernel
theorem dX1_lookFrom_142 : decode cX1_lookFrom 142 = .ok (.aload_n 0, 1) := by decide +kernel
theorem dX1_lookFrom_143 : decode cX1_lookFrom 143 = .ok (.dup, 1) := by decide +kernel
theorem dX1_lookFrom_144 : decode cX1_lookFrom 144 = .ok (.getfield 49, 3) := by decide +kernel
theorem dX1_lookFrom_147 : decode cX1_lookFrom 147 = .ok (.iconst 1, 1) := by decide +kernel
theorem dX1_lookFrom_148 : decode cX1_lookFrom 148 = .ok (.iadd, 1) := by decide +kernel
theorem dX1_lookFrom_149 : decode cX1_lookFrom 149 = .ok (.putfield 49, 3) := by decide +kernel
theorem dX1_lookFrom_152 : decode cX1_lookFrom 152 = .ok (.iinc 4 1, 3) := by decide +kernel
theorem dX1_lookFrom_155 : decode cX1_lookFrom 155 = .ok (.goto (-85), 3) := by decide +kernel
theorem dX1_lookFrom_158 : decode cX1_lookFrom 158 = .ok (.return_, 1) := by decide +kernel
theorem dX1_weigh_0 : decode cX1_weigh 0 = .ok (.aload_n 0, 1) := by decide +kernel
theorem dX1_weigh_1 : decode cX1_weigh 1 = .ok (.getfield 9, 3) := by decide +kernel
theorem dX1_weigh_4 : decode cX1_weigh 4 = .ok (.iconst 0, 1) := by decide +kernel
theorem dX1_weigh_5 : decode cX1_weigh 5 = .ok (.invokestatic 68, 3) := by decide +kernel
theorem dX1_weigh_8 : decode cX1_weigh 8 = .ok (.aload_n 0, 1) := by decide +kernel
theorem dX1_weigh_9 : decode cX1_weigh 9 = .ok (.getfield 15, 3) := by decide +kernel
theorem dX1_weigh_12 : decode cX1_weigh 12 = .ok (.iconst 0, 1) := by decide +kernel
theorem dX1_weigh_13 : decode cX1_weigh 13 = .ok (.invokestatic 68, 3) := by decide +kernel
theorem dX1_weigh_16 : decode cX1_weigh 16 = .ok (.iconst 0, 1) := by decide +kernel
theorem dX1_weigh_17 : decode cX1_weigh 17 = .ok (.istore_n 3, 1) := by decide +kernel
theorem dX1_weigh_18 : decode cX1_weigh 18 = .ok (.iload_n 3, 1) := by decide +kernel
theorem dX1_weigh_19 : decode cX1_weigh 19 = .ok (.aload_n 0, 1) := by decide +kernel
theorem dX1_weigh_20 : decode cX1_weigh 20 = .ok (.getfield 38, 3) := by decide +kernel
theorem dX1_weigh_23 : decode cX1_weigh 23 = .ok (.getfield 74, 3) := by decide +kernel
theorem dX1_weigh_26 : decode cX1_weigh 26 = .ok (.if_icmp .ge 45, 3) := by decide +kernel
theorem dX1_weigh_29 : decode cX1_weigh 29 = .ok (.aload_n 0, 1) := by decide +kernel
theorem dX1_weigh_30 : decode cX1_weigh 30 = .ok (.getfield 38, 3) := by decide +kernel
theorem dX1_weigh_33 : decode cX1_weigh 33 = .ok (.iload_n 3, 1) := by decide +kernel
theorem dX1_weigh_34 : decode cX1_weigh 34 = .ok (.iload_n 1, 1) := by decide +kernel
theorem dX1_weigh_35 : decode cX1_weigh 35 = .ok (.iload_n 2, 1) := by decide +kernel
theorem dX1_weigh_36 : decode cX1_weigh 36 = .ok (.invokevirtual 77, 3) := by decide +kernel
theorem dX1_weigh_39 : decode cX1_weigh 39 = .ok (.istore 4, 2) := by decide +kernel
theorem dX1_weigh_41 : decode cX1_weigh 41 = .ok (.aload_n 0, 1) := by decide +kernel
theorem dX1_weigh_42 : decode cX1_weigh 42 = .ok (.iload_n 3, 1) := by decide +kernel
theorem dX1_weigh_43 : decode cX1_weigh 43 = .ok (.iload 4, 2) := by decide +kernel
theorem dX1_weigh_45 : decode cX1_weigh 45 = .ok (.iconst 1, 1) := by decide +kernel
theorem dX1_weigh_46 : decode cX1_weigh 46 = .ok (.isub, 1) := by decide +kernel
theorem dX1_weigh_47 : decode cX1_weigh 47 = .ok (.aload_n 0, 1) := by decide +kernel
theorem dX1_weigh_48 : decode cX1_weigh 48 = .ok (.getfield 9, 3) := by decide +kernel
theorem dX1_weigh_51 : decode cX1_weigh 51 = .ok (.invokevirtual 81, 3) := by decide +kernel
theorem dX1_weigh_54 : decode cX1_weigh 54 = .ok (.aload_n 0, 1) := by decide +kernel
theorem dX1_weigh_55 : decode cX1_weigh 55 = .ok (.iload_n 3, 1) := by decide +kernel
theorem dX1_weigh_56 : decode cX1_weigh 56 = .ok (.iload 4, 2) := by decide +kernel
theorem dX1_weigh_58 : decode cX1_weigh 58 = .ok (.aload_n 0, 1) := by decide +kernel
theorem dX1_weigh_59 : decode cX1_weigh 59 = .ok (.getfield 15, 3) := by decide +kernel
theorem dX1_weigh_62 : decode cX1_weigh 62 = .ok (.invokevirtual 81, 3) := by decide +kernel
theorem dX1_weigh_65 : decode cX1_weigh 65 = .ok (.iinc 3 1, 3) := by decide +kernel
theorem dX1_weigh_68 : decode cX1_weigh 68 = .ok (.goto (-50), 3) := by decide +kernel
theorem dX1_weigh_71 : decode cX1_weigh 71 = .ok (.aload_n 0, 1) := by decide +kernel
theorem dX1_weigh_72 : decode cX1_weigh 72 = .ok (.getfield 9, 3) := by decide +kernel
theorem dX1_weigh_75 : decode cX1_weigh 75 = .ok (.invokestatic 85, 3) := by decide +kernel
theorem dX1_weigh_78 : decode cX1_weigh 78 = .ok (.aload_n 0, 1) := by decide +kernel
theorem dX1_weigh_79 : decode cX1_weigh 79 = .ok (.getfield 15, 3) := by decide +kernel
theorem dX1_weigh_82 : decode cX1_weigh 82 = .ok (.invokestatic 85, 3) := by decide +kernel
theorem dX1_weigh_85 : decode cX1_weigh 85 = .ok (.return_, 1) := by decide +kernel
theorem dX1_markWithin_0 : decode cX1_markWithin 0 = .ok (.bipush 99, 2) := by decide +kernel
theorem dX1_markWithin_2 : decode cX1_markWithin 2 = .ok (.istore 4, 2) := by decide +kernel
theorem dX1_markWithin_4 : decode cX1_markWithin 4 = .ok (.iconst 0, 1) := by decide +kernel
theorem dX1_markWithin_5 : decode cX1_markWithin 5 = .ok (.istore 5, 2) := by decide +kernel
theorem dX1_markWithin_7 : decode cX1_markWithin 7 = .ok (.iload 5, 2) := by decide +kernel
theorem dX1_markWithin_9 : decode cX1_markWithin 9 = .ok (.bipush 100, 2) := by decide +kernel
theorem dX1_markWithin_11 : decode cX1_markWithin 11 = .ok (.if_icmp .ge 87, 3) := by decide +kernel
theorem dX1_markWithin_14 : decode cX1_markWithin 14 = .ok (.iload 4, 2) := by decide +kernel
theorem dX1_markWithin_16 : decode cX1_markWithin 16 = .ok (.ifCond .lt 25, 3) := by decide +kernel
theorem dX1_markWithin_19 : decode cX1_markWithin 19 = .ok (.aload_n 0, 1) := by decide +kernel
theorem dX1_markWithin_20 : decode cX1_markWithin 20 = .ok (.getfield 38, 3) := by decide +kernel
theorem dX1_markWithin_23 : decode cX1_markWithin 23 = .ok (.iload_n 1, 1) := by decide +kernel
theorem dX1_markWithin_24 : decode cX1_markWithin 24 = .ok (.iload 5, 2) := by decide +kernel
theorem dX1_markWithin_26 : decode cX1_markWithin 26 = .ok (.iload 4, 2) := by decide +kernel
theorem dX1_markWithin_28 : decode cX1_markWithin 28 = .ok (.invokevirtual 89, 3) := by decide +kernel
theorem dX1_markWithin_31 : decode cX1_markWithin 31 = .ok (.iload_n 2, 1) := by decide +kernel
theorem dX1_markWithin_32 : decode cX1_markWithin 32 = .ok (.if_icmp .le 9, 3) := by decide +kernel
theorem dX1_markWithin_35 : decode cX1_markWithin 35 = .ok (.iinc 4 (-1), 3) := by decide +kernel
theorem dX1_markWithin_38 : decode cX1_markWithin 38 = .ok (.goto (-24), 3) := by decide +kernel
theorem dX1_markWithin_41 : decode cX1_markWithin 41 = .ok (.iload 4, 2) := by decide +kernel
theorem dX1_markWithin_43 : decode cX1_markWithin 43 = .ok (.ifCond .ge 4, 3) := by decide +kernel
theorem dX1_markWithin_46 : decode cX1_markWithin 46 = .ok (.return_, 1) := by decide +kernel
theorem dX1_markWithin_47 : decode cX1_markWithin 47 = .ok (.aload_n 0, 1) := by decide +kernel
theorem dX1_markWithin_48 : decode cX1_markWithin 48 = .ok (.iload_n 1, 1) := by decide +kernel
theorem dX1_markWithin_49 : decode cX1_markWithin 49 = .ok (.aload_n 0, 1) := by decide +kernel
theorem dX1_markWithin_50 : decode cX1_markWithin 50 = .ok (.getfield 38, 3) := by decide +kernel
theorem dX1_markWithin_53 : decode cX1_markWithin 53 = .ok (.getfield 92, 3) := by decide +kernel
theorem dX1_markWithin_56 : decode cX1_markWithin 56 = .ok (.iload_n 1, 1) := by decide +kernel
theorem dX1_markWithin_57 : decode cX1_markWithin 57 = .ok (.iaload, 1) := by decide +kernel
theorem dX1_markWithin_58 : decode cX1_markWithin 58 = .ok (.iload 5, 2) := by decide +kernel
theorem dX1_markWithin_60 : decode cX1_markWithin 60 = .ok (.iadd, 1) := by decide +kernel
theorem dX1_markWithin_61 : decode cX1_markWithin 61 = .ok (.iload 4, 2) := by decide +kernel
theorem dX1_markWithin_63 : decode cX1_markWithin 63 = .ok (.aload_n 3, 1) := by decide +kernel
theorem dX1_markWithin_64 : decode cX1_markWithin 64 = .ok (.invokevirtual 95, 3) := by decide +kernel
theorem dX1_markWithin_67 : decode cX1_markWithin 67 = .ok (.iload 5, 2) := by decide +kernel
theorem dX1_markWithin_69 : decode cX1_markWithin 69 = .ok (.ifCond .le 23, 3) := by decide +kernel
theorem dX1_markWithin_72 : decode cX1_markWithin 72 = .ok (.aload_n 0, 1) := by decide +kernel
theorem dX1_markWithin_73 : decode cX1_markWithin 73 = .ok (.iload_n 1, 1) := by decide +kernel
theorem dX1_markWithin_74 : decode cX1_markWithin 74 = .ok (.aload_n 0, 1) := by decide +kernel
theorem dX1_markWithin_75 : decode cX1_markWithin 75 = .ok (.getfield 38, 3) := by decide +kernel
theorem dX1_markWithin_78 : decode cX1_markWithin 78 = .ok (.getfield 92, 3) := by decide +kernel
theorem dX1_markWithin_81 : decode cX1_markWithin 81 = .ok (.iload_n 1, 1) := by decide +kernel
theorem dX1_markWithin_82 : decode cX1_markWithin 82 = .ok (.iaload, 1) := by decide +kernel
theorem dX1_markWithin_83 : decode cX1_markWithin 83 = .ok (.iload 5, 2) := by decide +kernel
theorem dX1_markWithin_85 : decode cX1_markWithin 85 = .ok (.isub, 1) := by decide +kernel
theorem dX1_markWithin_86 : decode cX1_markWithin 86 = .ok (.iload 4, 2) := by decide +kernel
theorem dX1_markWithin_88 : decode cX1_markWithin 88 = .ok (.aload_n 3, 1) := by decide +kernel
theorem dX1_markWithin_89 : decode cX1_markWithin 89 = .ok (.invokevirtual 95, 3) := by decide +kernel
theorem dX1_markWithin_92 : decode cX1_markWithin 92 = .ok (.iinc 5 1, 3) := by decide +kernel
theorem dX1_markWithin_95 : decode cX1_markWithin 95 = .ok (.goto (-88), 3) := by decide +kernel
theorem dX1_markWithin_98 : decode cX1_markWithin 98 = .ok (.return_, 1) := by decide +kernel
theorem dX1_markColumn_0 : decode cX1_markColumn 0 = .ok (.iload_n 2, 1) := by decide +kernel
theorem dX1_markColumn_1 : decode cX1_markColumn 1 = .ok (.ifCond .lt 9, 3) := by decide +kernel
theorem dX1_markColumn_4 : decode cX1_markColumn 4 = .ok (.iload_n 2, 1) := by decide +kernel
theorem dX1_markColumn_5 : decode cX1_markColumn 5 = .ok (.bipush 100, 2) := by decide +kernel
theorem dX1_markColumn_7 : decode cX1_markColumn 7 = .ok (.if_icmp .lt 4, 3) := by decide +kernel
theorem dX1_markColumn_10 : decode cX1_markColumn 10 = .ok (.return_, 1) := by decide +kernel
theorem dX1_markColumn_11 : decode cX1_markColumn 11 = .ok (.iconst 0, 1) := by decide +kernel
theorem dX1_markColumn_12 : decode cX1_markColumn 12 = .ok (.aload_n 0, 1) := by decide +kernel
theorem dX1_markColumn_13 : decode cX1_markColumn 13 = .ok (.getfield 38, 3) := by decide +kernel
theorem dX1_markColumn_16 : decode cX1_markColumn 16 = .ok (.getfield 99, 3) := by decide +kernel
theorem dX1_markColumn_19 : decode cX1_markColumn 19 = .ok (.iload_n 1, 1) := by decide +kernel
theorem dX1_markColumn_20 : decode cX1_markColumn 20 = .ok (.iaload, 1) := by decide +kernel
theorem dX1_markColumn_21 : decode cX1_markColumn 21 = .ok (.iload_n 3, 1) := by decide +kernel
theorem dX1_markColumn_22 : decode cX1_markColumn 22 = .ok (.isub, 1) := by decide +kernel
theorem dX1_markColumn_23 : decode cX1_markColumn 23 = .ok (.invokestatic 62, 3) := by decide +kernel
theorem dX1_markColumn_26 : decode cX1_markColumn 26 = .ok (.istore 5, 2) := by decide +kernel
theorem dX1_markColumn_28 : decode cX1_markColumn 28 = .ok (.aload_n 0, 1) := by decide +kernel
theorem dX1_markColumn_29 : decode cX1_markColumn 29 = .ok (.getfield 38, 3) := by decide +kernel
theorem dX1_markColumn_32 : decode cX1_markColumn 32 = .ok (.getfield 99, 3) := by decide +kernel
theorem dX1_markColumn_35 : decode cX1_markColumn 35 = .ok (.iload_n 1, 1) := by decide +kernel
theorem dX1_markColumn_36 : decode cX1_markColumn 36 = .ok (.iaload, 1) := by decide +kernel
theorem dX1_markColumn_37 : decode cX1_markColumn 37 = .ok (.iload_n 3, 1) := by decide +kernel
theorem dX1_markColumn_38 : decode cX1_markColumn 38 = .ok (.iadd, 1) := by decide +kernel
theorem dX1_markColumn_39 : decode cX1_markColumn 39 = .ok (.iconst 1, 1) := by decide +kernel
theorem dX1_markColumn_40 : decode cX1_markColumn 40 = .ok (.iadd, 1) := by decide +kernel
theorem dX1_markColumn_41 : decode cX1_markColumn 41 = .ok (.istore 6, 2) := by decide +kernel
theorem dX1_markColumn_43 : decode cX1_markColumn 43 = .ok (.aload 4, 2) := by decide +kernel
theorem dX1_markColumn_45 : decode cX1_markColumn 45 = .ok (.iload_n 2, 1) := by decide +kernel
theorem dX1_markColumn_46 : decode cX1_markColumn 46 = .ok (.bipush 100, 2) := by decide +kernel
theorem dX1_markColumn_48 : decode cX1_markColumn 48 = .ok (.imul, 1) := by decide +kernel
theorem dX1_markColumn_49 : decode cX1_markColumn 49 = .ok (.iload 5, 2) := by decide +kernel
theorem dX1_markColumn_51 : decode cX1_markColumn 51 = .ok (.iadd, 1) := by decide +kernel
theorem dX1_markColumn_52 : decode cX1_markColumn 52 = .ok (.dup2, 1) := by decide +kernel
theorem dX1_markColumn_53 : decode cX1_markColumn 53 = .ok (.iaload, 1) := by decide +kernel
theorem dX1_markColumn_54 : decode cX1_markColumn 54 = .ok (.aload_n 0, 1) := by decide +kernel
theorem dX1_markColumn_55 : decode cX1_markColumn 55 = .ok (.getfield 38, 3) := by decide +kernel
theorem dX1_markColumn_58 : decode cX1_markColumn 58 = .ok (.getfield 102, 3) := by decide +kernel
theorem dX1_markColumn_61 : decode cX1_markColumn 61 = .ok (.iload_n 1, 1) := by decide +kernel
theorem dX1_markColumn_62 : decode cX1_markColumn 62 = .ok (.iaload, 1) := by decide +kernel
theorem dX1_markColumn_63 : decode cX1_markColumn 63 = .ok (.iadd, 1) := by decide +kernel
theorem dX1_markColumn_64 : decode cX1_markColumn 64 = .ok (.iastore, 1) := by decide +kernel
theorem dX1_markColumn_65 : decode cX1_markColumn 65 = .ok (.iload 6, 2) := by decide +kernel
theorem dX1_markColumn_67 : decode cX1_markColumn 67 = .ok (.bipush 100, 2) := by decide +kernel
theorem dX1_markColumn_69 : decode cX1_markColumn 69 = .ok (.if_icmp .ge 25, 3) := by decide +kernel
theorem dX1_markColumn_72 : decode cX1_markColumn 72 = .ok (.aload 4, 2) := by decide +kernel
theorem dX1_markColumn_74 : decode cX1_markColumn 74 = .ok (.iload_n 2, 1) := by decide +kernel
theorem dX1_markColumn_75 : decode cX1_markColumn 75 = .ok (.bipush 100, 2) := by decide +kernel
theorem dX1_markColumn_77 : decode cX1_markColumn 77 = .ok (.imul, 1) := by decide +kernel
theorem dX1_markColumn_78 : decode cX1_markColumn 78 = .ok (.iload 6, 2) := by decide +kernel
theorem dX1_markColumn_80 : decode cX1_markColumn 80 = .ok (.iadd, 1) := by decide +kernel
theorem dX1_markColumn_81 : decode cX1_markColumn 81 = .ok (.dup2, 1) := by decide +kernel
theorem dX1_markColumn_82 : decode cX1_markColumn 82 = .ok (.iaload, 1) := by decide +kernel
theorem dX1_markColumn_83 : decode cX1_markColumn 83 = .ok (.aload_n 0, 1) := by decide +kernel
theorem dX1_markColumn_84 : decode cX1_markColumn 84 = .ok (.getfield 38, 3) := by decide +kernel
theorem dX1_markColumn_87 : decode cX1_markColumn 87 = .ok (.getfield 102, 3) := by decide +kernel
theorem dX1_markColumn_90 : decode cX1_markColumn 90 = .ok (.iload_n 1, 1) := by decide +kernel
theorem dX1_markColumn_91 : decode cX1_markColumn 91 = .ok (.iaload, 1) := by decide +kernel
theorem dX1_markColumn_92 : decode cX1_markColumn 92 = .ok (.isub, 1) := by decide +kernel
theorem dX1_markColumn_93 : decode cX1_markColumn 93 = .ok (.iastore, 1) := by decide +kernel
theorem dX1_markColumn_94 : decode cX1_markColumn 94 = .ok (.return_, 1) := by decide +kernel
theorem dX1_sumColumns_0 : decode cX1_sumColumns 0 = .ok (.iconst 0, 1) := by decide +kernel
theorem dX1_sumColumns_1 : decode cX1_sumColumns 1 = .ok (.istore_n 1, 1) := by decide +kernel
theorem dX1_sumColumns_2 : decode cX1_sumColumns 2 = .ok (.iload_n 1, 1) := by decide +kernel
theorem dX1_sumColumns_3 : decode cX1_sumColumns 3 = .ok (.sipush 10000, 3) := by decide +kernel
theorem dX1_sumColumns_6 : decode cX1_sumColumns 6 = .ok (.if_icmp .ge 27, 3) := by decide +kernel
theorem dX1_sumColumns_9 : decode cX1_sumColumns 9 = .ok (.iload_n 1, 1) := by decide +kernel
theorem dX1_sumColumns_10 : decode cX1_sumColumns 10 = .ok (.bipush 100, 2) := by decide +kernel
theorem dX1_sumColumns_12 : decode cX1_sumColumns 12 = .ok (.irem, 1) := by decide +kernel
theorem dX1_sumColumns_13 : decode cX1_sumColumns 13 = .ok (.ifCond .eq 14, 3) := by decide +kernel
theorem dX1_sumColumns_16 : decode cX1_sumColumns 16 = .ok (.aload_n 0, 1) := by decide +kernel
theorem dX1_sumColumns_17 : decode cX1_sumColumns 17 = .ok (.iload_n 1, 1) := by decide +kernel
theorem dX1_sumColumns_18 : decode cX1_sumColumns 18 = .ok (.dup2, 1) := by decide +kernel
theorem dX1_sumColumns_19 : decode cX1_sumColumns 19 = .ok (.iaload, 1) := by decide +kernel
theorem dX1_sumColumns_20 : decode cX1_sumColumns 20 = .ok (.aload_n 0, 1) := by decide +kernel
theorem dX1_sumColumns_21 : decode cX1_sumColumns 21 = .ok (.iload_n 1, 1) := by decide +kernel
theorem dX1_sumColumns_22 : decode cX1_sumColumns 22 = .ok (.iconst 1, 1) := by decide +kernel
theorem dX1_sumColumns_23 : decode cX1_sumColumns 23 = .ok (.isub, 1) := by decide +kernel
theorem dX1_sumColumns_24 : decode cX1_sumColumns 24 = .ok (.iaload, 1) := by decide +kernel
theorem dX1_sumColumns_25 : decode cX1_sumColumns 25 = .ok (.iadd, 1) := by decide +kernel
theorem dX1_sumColumns_26 : decode cX1_sumColumns 26 = .ok (.iastore, 1) := by decide +kernel
theorem dX1_sumColumns_27 : decode cX1_sumColumns 27 = .ok (.iinc 1 1, 3) := by decide +kernel
theorem dX1_sumColumns_30 : decode cX1_sumColumns 30 = .ok (.goto (-28), 3) := by decide +kernel
theorem dX1_sumColumns_33 : decode cX1_sumColumns 33 = .ok (.return_, 1) := by decide +kernel
theorem dX1_cutPieces_0 : decode cX1_cutPieces 0 = .ok (.aload_n 0, 1) := by decide +kernel
theorem dX1_cutPieces_1 : decode cX1_cutPieces 1 = .ok (.getfield 28, 3) := by decide +kernel
theorem dX1_cutPieces_4 : decode cX1_cutPieces 4 = .ok (.iconst (-1), 1) := by decide +kernel
theorem dX1_cutPieces_5 : decode cX1_cutPieces 5 = .ok (.if_icmp .eq 4, 3) := by decide +kernel
theorem dX1_cutPieces_8 : decode cX1_cutPieces 8 = .ok (.return_, 1) := by decide +kernel
theorem dX1_cutPieces_9 : decode cX1_cutPieces 9 = .ok (.aload_n 0, 1) := by decide +kernel
theorem dX1_cutPieces_10 : decode cX1_cutPieces 10 = .ok (.iconst 0, 1) := by decide +kernel
theorem dX1_cutPieces_11 : decode cX1_cutPieces 11 = .ok (.putfield 28, 3) := by decide +kernel
theorem dX1_cutPieces_14 : decode cX1_cutPieces 14 = .ok (.iconst 0, 1) := by decide +kernel
theorem dX1_cutPieces_15 : decode cX1_cutPieces 15 = .ok (.istore_n 1, 1) := by decide +kernel
theorem dX1_cutPieces_16 : decode cX1_cutPieces 16 = .ok (.iconst 0, 1) := by decide +kernel
theorem dX1_cutPieces_17 : decode cX1_cutPieces 17 = .ok (.istore_n 2, 1) := by decide +kernel
theorem dX1_cutPieces_18 : decode cX1_cutPieces 18 = .ok (.iload_n 2, 1) := by decide +kernel
theorem dX1_cutPieces_19 : decode cX1_cutPieces 19 = .ok (.sipush 10000, 3) := by decide +kernel
theorem dX1_cutPieces_22 : decode cX1_cutPieces 22 = .ok (.if_icmp .ge 55, 3) := by decide +kernel
theorem dX1_cutPieces_25 : decode cX1_cutPieces 25 = .ok (.aload_n 0, 1) := by decide +kernel
theorem dX1_cutPieces_26 : decode cX1_cutPieces 26 = .ok (.getfield 18, 3) := by decide +kernel
theorem dX1_cutPieces_29 : decode cX1_cutPieces 29 = .ok (.iload_n 2, 1) := by decide +kernel
theorem dX1_cutPieces_30 : decode cX1_cutPieces 30 = .ok (.baload, 1) := by decide +kernel
theorem dX1_cutPieces_31 : decode cX1_cutPieces 31 = .ok (.ifCond .eq 40, 3) := by decide +kernel
theorem dX1_cutPieces_34 : decode cX1_cutPieces 34 = .ok (.aload_n 0, 1) := by decide +kernel
theorem dX1_cutPieces_35 : decode cX1_cutPieces 35 = .ok (.getfield 28, 3) := by decide +kernel
theorem dX1_cutPieces_38 : decode cX1_cutPieces 38 = .ok (.sipush 5000, 3) := by decide +kernel
theorem dX1_cutPieces_41 : decode cX1_cutPieces 41 = .ok (.if_icmp .ge 30, 3) := by decide +kernel
theorem dX1_cutPieces_44 : decode cX1_cutPieces 44 = .ok (.aload_n 0, 1) := by decide +kernel
theorem dX1_cutPieces_45 : decode cX1_cutPieces 45 = .ok (.getfield 25, 3) := by decide +kernel
theorem dX1_cutPieces_48 : decode cX1_cutPieces 48 = .ok (.aload_n 0, 1) := by decide +kernel
theorem dX1_cutPieces_49 : decode cX1_cutPieces 49 = .ok (.getfield 28, 3) := by decide +kernel
theorem dX1_cutPieces_52 : decode cX1_cutPieces 52 = .ok (.iload_n 1, 1) := by decide +kernel
theorem dX1_cutPieces_53 : decode cX1_cutPieces 53 = .ok (.iastore, 1) := by decide +kernel
theorem dX1_cutPieces_54 : decode cX1_cutPieces 54 = .ok (.aload_n 0, 1) := by decide +kernel
theorem dX1_cutPieces_55 : decode cX1_cutPieces 55 = .ok (.iload_n 2, 1) := by decide +kernel
theorem dX1_cutPieces_56 : decode cX1_cutPieces 56 = .ok (.iload_n 1, 1) := by decide +kernel
theorem dX1_cutPieces_57 : decode cX1_cutPieces 57 = .ok (.invokevirtual 105, 3) := by decide +kernel
theorem dX1_cutPieces_60 : decode cX1_cutPieces 60 = .ok (.istore_n 1, 1) := by decide +kernel
theorem dX1_cutPieces_61 : decode cX1_cutPieces 61 = .ok (.aload_n 0, 1) := by decide +kernel
theorem dX1_cutPieces_62 : decode cX1_cutPieces 62 = .ok (.dup, 1) := by decide +kernel
theorem dX1_cutPieces_63 : decode cX1_cutPieces 63 = .ok (.getfield 28, 3) := by decide +kernel
theorem dX1_cutPieces_66 : decode cX1_cutPieces 66 = .ok (.iconst 1, 1) := by decide +kernel
theorem dX1_cutPieces_67 : decode cX1_cutPieces 67 = .ok (.iadd, 1) := by decide +kernel
theorem dX1_cutPieces_68 : decode cX1_cutPieces 68 = .ok (.putfield 28, 3) := by decide +kernel
theorem dX1_cutPieces_71 : decode cX1_cutPieces 71 = .ok (.iinc 2 1, 3) := by decide +kernel
theorem dX1_cutPieces_74 : decode cX1_cutPieces 74 = .ok (.goto (-56), 3) := by decide +kernel
theorem dX1_cutPieces_77 : decode cX1_cutPieces 77 = .ok (.aload_n 0, 1) := by decide +kernel
theorem dX1_cutPieces_78 : decode cX1_cutPieces 78 = .ok (.getfield 25, 3) := by decide +kernel
theorem dX1_cutPieces_81 : decode cX1_cutPieces 81 = .ok (.aload_n 0, 1) := by decide +kernel
theorem dX1_cutPieces_82 : decode cX1_cutPieces 82 = .ok (.getfield 28, 3) := by decide +kernel
theorem dX1_cutPieces_85 : decode cX1_cutPieces 85 = .ok (.iload_n 1, 1) := by decide +kernel
theorem dX1_cutPieces_86 : decode cX1_cutPieces 86 = .ok (.iastore, 1) := by decide +kernel
theorem dX1_cutPieces_87 : decode cX1_cutPieces 87 = .ok (.return_, 1) := by decide +kernel
theorem dX1_takePiece_0 : decode cX1_takePiece 0 = .ok (.aload_n 0, 1) := by decide +kernel
theorem dX1_takePiece_1 : decode cX1_takePiece 1 = .ok (.iload_n 1, 1) := by decide +kernel
theorem dX1_takePiece_2 : decode cX1_takePiece 2 = .ok (.iload_n 2, 1) := by decide +kernel
theorem dX1_takePiece_3 : decode cX1_takePiece 3 = .ok (.invokevirtual 108, 3) := by decide +kernel
theorem dX1_takePiece_6 : decode cX1_takePiece 6 = .ok (.istore_n 3, 1) := by decide +kernel
theorem dX1_takePiece_7 : decode cX1_takePiece 7 = .ok (.iload_n 2, 1) := by decide +kernel
theorem dX1_takePiece_8 : decode cX1_takePiece 8 = .ok (.istore 4, 2) := by decide +kernel
theorem dX1_takePiece_10 : decode cX1_takePiece 10 = .ok (.iload 4, 2) := by decide +kernel
theorem dX1_takePiece_12 : decode cX1_takePiece 12 = .ok (.iload_n 3, 1) := by decide +kernel
theorem dX1_takePiece_13 : decode cX1_takePiece 13 = .ok (.if_icmp .ge 101, 3) := by decide +kernel
theorem dX1_takePiece_16 : decode cX1_takePiece 16 = .ok (.iload 4, 2) := by decide +kernel
theorem dX1_takePiece_18 : decode cX1_takePiece 18 = .ok (.sipush 10000, 3) := by decide +kernel
theorem dX1_takePiece_21 : decode cX1_takePiece 21 = .ok (.if_icmp .ge 93, 3) := by decide +kernel
theorem dX1_takePiece_24 : decode cX1_takePiece 24 = .ok (.aload_n 0, 1) := by decide +kernel
theorem dX1_takePiece_25 : decode cX1_takePiece 25 = .ok (.getfield 22, 3) := by decide +kernel
theorem dX1_takePiece_28 : decode cX1_takePiece 28 = .ok (.iload 4, 2) := by decide +kernel
theorem dX1_takePiece_30 : decode cX1_takePiece 30 = .ok (.iaload, 1) := by decide +kernel
theorem dX1_takePiece_31 : decode cX1_takePiece 31 = .ok (.istore 5, 2) := by decide +kernel
theorem dX1_takePiece_33 : decode cX1_takePiece 33 = .ok (.iload 5, 2) := by decide +kernel
theorem dX1_takePiece_35 : decode cX1_takePiece 35 = .ok (.bipush 100, 2) := by decide +kernel
theorem dX1_takePiece_37 : decode cX1_takePiece 37 = .ok (.irem, 1) := by decide +kernel
theorem dX1_takePiece_38 : decode cX1_takePiece 38 = .ok (.ifCond .le 13, 3) := by decide +kernel
theorem dX1_takePiece_41 : decode cX1_takePiece 41 = .ok (.aload_n 0, 1) := by decide +kernel
theorem dX1_takePiece_42 : decode cX1_takePiece 42 = .ok (.iload 5, 2) := by decide +kernel
theorem dX1_takePiece_44 : decode cX1_takePiece 44 = .ok (.iconst 1, 1) := by decide +kernel
theorem dX1_takePiece_45 : decode cX1_takePiece 45 = .ok (.isub, 1) := by decide +kernel
theorem dX1_takePiece_46 : decode cX1_takePiece 46 = .ok (.iload_n 3, 1) := by decide +kernel
theorem dX1_takePiece_47 : decode cX1_takePiece 47 = .ok (.invokevirtual 108, 3) := by decide +kernel
theorem dX1_takePiece_50 : decode cX1_takePiece 50 = .ok (.istore_n 3, 1) := by decide +kernel
theorem dX1_takePiece_51 : decode cX1_takePiece 51 = .ok (.iload 5, 2) := by decide +kernel
theorem dX1_takePiece_53 : decode cX1_takePiece 53 = .ok (.bipush 100, 2) := by decide +kernel
theorem dX1_takePiece_55 : decode cX1_takePiece 55 = .ok (.irem, 1) := by decide +kernel
theorem dX1_takePiece_56 : decode cX1_takePiece 56 = .ok (.bipush 99, 2) := by decide +kernel
theorem dX1_takePiece_58 : decode cX1_takePiece 58 = .ok (.if_icmp .ge 13, 3) := by decide +kernel
theorem dX1_takePiece_61 : decode cX1_takePiece 61 = .ok (.aload_n 0, 1) := by decide +kernel
theorem dX1_takePiece_62 : decode cX1_takePiece 62 = .ok (.iload 5, 2) := by decide +kernel
theorem dX1_takePiece_64 : decode cX1_takePiece 64 = .ok (.iconst 1, 1) := by decide +kernel
theorem dX1_takePiece_65 : decode cX1_takePiece 65 = .ok (.iadd, 1) := by decide +kernel
theorem dX1_takePiece_66 : decode cX1_takePiece 66 = .ok (.iload_n 3, 1) := by decide +kernel
theorem dX1_takePiece_67 : decode cX1_takePiece 67 = .ok (.invokevirtual 108, 3) := by decide +kernel
theorem dX1_takePiece_70 : decode cX1_takePiece 70 = .ok (.istore_n 3, 1) := by decide +kernel
theorem dX1_takePiece_71 : decode cX1_takePiece 71 = .ok (.iload 5, 2) := by decide +kernel
theorem dX1_takePiece_73 : decode cX1_takePiece 73 = .ok (.bipush 100, 2) := by decide +kernel
theorem dX1_takePiece_75 : decode cX1_takePiece 75 = .ok (.if_icmp .lt 14, 3) := by decide +kernel
theorem dX1_takePiece_78 : decode cX1_takePiece 78 = .ok (.aload_n 0, 1) := by decide +kernel
theorem dX1_takePiece_79 : decode cX1_takePiece 79 = .ok (.iload 5, 2) := by decide +kernel
theorem dX1_takePiece_81 : decode cX1_takePiece 81 = .ok (.bipush 100, 2) := by decide +kernel
theorem dX1_takePiece_83 : decode cX1_takePiece 83 = .ok (.isub, 1) := by decide +kernel
theorem dX1_takePiece_84 : decode cX1_takePiece 84 = .ok (.iload_n 3, 1) := by decide +kernel
theorem dX1_takePiece_85 : decode cX1_takePiece 85 = .ok (.invokevirtual 108, 3) := by decide +kernel
theorem dX1_takePiece_88 : decode cX1_takePiece 88 = .ok (.istore_n 3, 1) := by decide +kernel
theorem dX1_takePiece_89 : decode cX1_takePiece 89 = .ok (.iload 5, 2) := by decide +kernel
theorem dX1_takePiece_91 : decode cX1_takePiece 91 = .ok (.sipush 9900, 3) := by decide +kernel
theorem dX1_takePiece_94 : decode cX1_takePiece 94 = .ok (.if_icmp .ge 14, 3) := by decide +kernel
theorem dX1_takePiece_97 : decode cX1_takePiece 97 = .ok (.aload_n 0, 1) := by decide +kernel
theorem dX1_takePiece_98 : decode cX1_takePiece 98 = .ok (.iload 5, 2) := by decide +kernel
theorem dX1_takePiece_100 : decode cX1_takePiece 100 = .ok (.bipush 100, 2) := by decide +kernel
theorem dX1_takePiece_102 : decode cX1_takePiece 102 = .ok (.iadd, 1) := by decide +kernel
theorem dX1_takePiece_103 : decode cX1_takePiece 103 = .ok (.iload_n 3, 1) := by decide +kernel
theorem dX1_takePiece_104 : decode cX1_takePiece 104 = .ok (.invokevirtual 108, 3) := by decide +kernel
theorem dX1_takePiece_107 : decode cX1_takePiece 107 = .ok (.istore_n 3, 1) := by decide +kernel
theorem dX1_takePiece_108 : decode cX1_takePiece 108 = .ok (.iinc 4 1, 3) := by decide +kernel
theorem dX1_takePiece_111 : decode cX1_takePiece 111 = .ok (.goto (-101), 3) := by decide +kernel
theorem dX1_takePiece_114 : decode cX1_takePiece 114 = .ok (.iload_n 3, 1) := by decide +kernel
theorem dX1_takePiece_115 : decode cX1_takePiece 115 = .ok (.ireturn, 1) := by decide +kernel
theorem dX1_takePoint_0 : decode cX1_takePoint 0 = .ok (.aload_n 0, 1) := by decide +kernel
theorem dX1_takePoint_1 : decode cX1_takePoint 1 = .ok (.getfield 18, 3) := by decide +kernel
theorem dX1_takePoint_4 : decode cX1_takePoint 4 = .ok (.iload_n 1, 1) := by decide +kernel
theorem dX1_takePoint_5 : decode cX1_takePoint 5 = .ok (.baload, 1) := by decide +kernel
theorem dX1_takePoint_6 : decode cX1_takePoint 6 = .ok (.ifCond .eq 10, 3) := by decide +kernel
theorem dX1_takePoint_9 : decode cX1_takePoint 9 = .ok (.iload_n 2, 1) := by decide +kernel
theorem dX1_takePoint_10 : decode cX1_takePoint 10 = .ok (.sipush 10000, 3) := by decide +kernel
theorem dX1_takePoint_13 : decode cX1_takePoint 13 = .ok (.if_icmp .lt 5, 3) := by decide +kernel
theorem dX1_takePoint_16 : decode cX1_takePoint 16 = .ok (.iload_n 2, 1) := by decide +kernel
theorem dX1_takePoint_17 : decode cX1_takePoint 17 = .ok (.ireturn, 1) := by decide +kernel
theorem dX1_takePoint_18 : decode cX1_takePoint 18 = .ok (.aload_n 0, 1) := by decide +kernel
theorem dX1_takePoint_19 : decode cX1_takePoint 19 = .ok (.getfield 18, 3) := by decide +kernel
theorem dX1_takePoint_22 : decode cX1_takePoint 22 = .ok (.iload_n 1, 1) := by decide +kernel
theorem dX1_takePoint_23 : decode cX1_takePoint 23 = .ok (.iconst 0, 1) := by decide +kernel
theorem dX1_takePoint_24 : decode cX1_takePoint 24 = .ok (.bastore, 1) := by decide +kernel
theorem dX1_takePoint_25 : decode cX1_takePoint 25 = .ok (.aload_n 0, 1) := by decide +kernel
theorem dX1_takePoint_26 : decode cX1_takePoint 26 = .ok (.getfield 22, 3) := by decide +kernel
theorem dX1_takePoint_29 : decode cX1_takePoint 29 = .ok (.iload_n 2, 1) := by decide +kernel
theorem dX1_takePoint_30 : decode cX1_takePoint 30 = .ok (.iload_n 1, 1) := by decide +kernel
theorem dX1_takePoint_31 : decode cX1_takePoint 31 = .ok (.iastore, 1) := by decide +kernel
theorem dX1_takePoint_32 : decode cX1_takePoint 32 = .ok (.iload_n 2, 1) := by decide +kernel
theorem dX1_takePoint_33 : decode cX1_takePoint 33 = .ok (.iconst 1, 1) := by decide +kernel
theorem dX1_takePoint_34 : decode cX1_takePoint 34 = .ok (.iadd, 1) := by decide +kernel
theorem dX1_takePoint_35 : decode cX1_takePoint 35 = .ok (.ireturn, 1) := by decide +kernel
theorem dX1_firstOf_0 : decode cX1_firstOf 0 = .ok (.aload_n 0, 1) := by decide +kernel
theorem dX1_firstOf_1 : decode cX1_firstOf 1 = .ok (.getfield 22, 3) := by decide +kernel
theorem dX1_firstOf_4 : decode cX1_firstOf 4 = .ok (.aload_n 0, 1) := by decide +kernel
theorem dX1_firstOf_5 : decode cX1_firstOf 5 = .ok (.getfield 25, 3) := by decide +kernel
theorem dX1_firstOf_8 : decode cX1_firstOf 8 = .ok (.iload_n 1, 1) := by decide +kernel
theorem dX1_firstOf_9 : decode cX1_firstOf 9 = .ok (.iaload, 1) := by decide +kernel
theorem dX1_firstOf_10 : decode cX1_firstOf 10 = .ok (.iaload, 1) := by decide +kernel
theorem dX1_firstOf_11 : decode cX1_firstOf 11 = .ok (.ireturn, 1) := by decide +kernel
theorem dX1_sizeOf_0 : decode cX1_sizeOf 0 = .ok (.aload_n 0, 1) := by decide +kernel
theorem dX1_sizeOf_1 : decode cX1_sizeOf 1 = .ok (.getfield 25, 3) := by decide +kernel
theorem dX1_sizeOf_4 : decode cX1_sizeOf 4 = .ok (.iload_n 1, 1) := by decide +kernel
theorem dX1_sizeOf_5 : decode cX1_sizeOf 5 = .ok (.iconst 1, 1) := by decide +kernel
theorem dX1_sizeOf_6 : decode cX1_sizeOf 6 = .ok (.iadd, 1) := by decide +kernel
theorem dX1_sizeOf_7 : decode cX1_sizeOf 7 = .ok (.iaload, 1) := by decide +kernel
theorem dX1_sizeOf_8 : decode cX1_sizeOf 8 = .ok (.aload_n 0, 1) := by decide +kernel
theorem dX1_sizeOf_9 : decode cX1_sizeOf 9 = .ok (.getfield 25, 3) := by decide +kernel
theorem dX1_sizeOf_12 : decode cX1_sizeOf 12 = .ok (.iload_n 1, 1) := by decide +kernel
theorem dX1_sizeOf_13 : decode cX1_sizeOf 13 = .ok (.iaload, 1) := by decide +kernel
theorem dX1_sizeOf_14 : decode cX1_sizeOf 14 = .ok (.isub, 1) := by decide +kernel
theorem dX1_sizeOf_15 : decode cX1_sizeOf 15 = .ok (.ireturn, 1) := by decide +kernel
theorem dX1_firstBeatenBy_0 : decode cX1_firstBeatenBy 0 = .ok (.aload_n 0, 1) := by decide +kernel
theorem dX1_firstBeatenBy_1 : decode cX1_firstBeatenBy 1 = .ok (.getfield 28, 3) := by decide +kernel
theorem dX1_firstBeatenBy_4 : decode cX1_firstBeatenBy 4 = .ok (.iconst (-1), 1) := by decide +kernel
theorem dX1_firstBeatenBy_5 : decode cX1_firstBeatenBy 5 = .ok (.if_icmp .eq 7, 3) := by decide +kernel
theorem dX1_firstBeatenBy_8 : decode cX1_firstBeatenBy 8 = .ok (.aload_n 0, 1) := by decide +kernel
theorem dX1_firstBeatenBy_9 : decode cX1_firstBeatenBy 9 = .ok (.invokevirtual 111, 3) := by decide +kernel
theorem dX1_firstBeatenBy_12 : decode cX1_firstBeatenBy 12 = .ok (.aload_n 0, 1) := by decide +kernel
theorem dX1_firstBeatenBy_13 : decode cX1_firstBeatenBy 13 = .ok (.iload_n 1, 1) := by decide +kernel
theorem dX1_firstBeatenBy_14 : decode cX1_firstBeatenBy 14 = .ok (.iload_n 2, 1) := by decide +kernel
theorem dX1_firstBeatenBy_15 : decode cX1_firstBeatenBy 15 = .ok (.invokevirtual 45, 3) := by decide +kernel
theorem dX1_firstBeatenBy_18 : decode cX1_firstBeatenBy 18 = .ok (.iconst 0, 1) := by decide +kernel
theorem dX1_firstBeatenBy_19 : decode cX1_firstBeatenBy 19 = .ok (.istore_n 3, 1) := by decide +kernel
theorem dX1_firstBeatenBy_20 : decode cX1_firstBeatenBy 20 = .ok (.iload_n 3, 1) := by decide +kernel
theorem dX1_firstBeatenBy_21 : decode cX1_firstBeatenBy 21 = .ok (.sipush 10000, 3) := by decide +kernel
theorem dX1_firstBeatenBy_24 : decode cX1_firstBeatenBy 24 = .ok (.if_icmp .ge 50, 3) := by decide +kernel
theorem dX1_firstBeatenBy_27 : decode cX1_firstBeatenBy 27 = .ok (.aload_n 0, 1) := by decide +kernel
theorem dX1_firstBeatenBy_28 : decode cX1_firstBeatenBy 28 = .ok (.getfield 18, 3) := by decide +kernel
theorem dX1_firstBeatenBy_31 : decode cX1_firstBeatenBy 31 = .ok (.iload_n 3, 1) := by decide +kernel
theorem dX1_firstBeatenBy_32 : decode cX1_firstBeatenBy 32 = .ok (.baload, 1) := by decide +kernel
theorem dX1_firstBeatenBy_33 : decode cX1_firstBeatenBy 33 = .ok (.ifCond .eq 35, 3) := by decide +kernel
theorem dX1_firstBeatenBy_36 : decode cX1_firstBeatenBy 36 = .ok (.aload_n 0, 1) := by decide +kernel
theorem dX1_firstBeatenBy_37 : decode cX1_firstBeatenBy 37 = .ok (.getfield 38, 3) := by decide +kernel
theorem dX1_firstBeatenBy_40 : decode cX1_firstBeatenBy 40 = .ok (.aload_n 0, 1) := by decide +kernel
theorem dX1_firstBeatenBy_41 : decode cX1_firstBeatenBy 41 = .ok (.getfield 38, 3) := by decide +kernel
theorem dX1_firstBeatenBy_44 : decode cX1_firstBeatenBy 44 = .ok (.getfield 55, 3) := by decide +kernel
theorem dX1_firstBeatenBy_47 : decode cX1_firstBeatenBy 47 = .ok (.aload_n 0, 1) := by decide +kernel
theorem dX1_firstBeatenBy_48 : decode cX1_firstBeatenBy 48 = .ok (.getfield 15, 3) := by decide +kernel
theorem dX1_firstBeatenBy_51 : decode cX1_firstBeatenBy 51 = .ok (.iload_n 3, 1) := by decide +kernel
theorem dX1_firstBeatenBy_52 : decode cX1_firstBeatenBy 52 = .ok (.iaload, 1) := by decide +kernel
theorem dX1_firstBeatenBy_53 : decode cX1_firstBeatenBy 53 = .ok (.isub, 1) := by decide +kernel
theorem dX1_firstBeatenBy_54 : decode cX1_firstBeatenBy 54 = .ok (.aload_n 0, 1) := by decide +kernel
theorem dX1_firstBeatenBy_55 : decode cX1_firstBeatenBy 55 = .ok (.getfield 9, 3) := by decide +kernel
theorem dX1_firstBeatenBy_58 : decode cX1_firstBeatenBy 58 = .ok (.iload_n 3, 1) := by decide +kernel
theorem dX1_firstBeatenBy_59 : decode cX1_firstBeatenBy 59 = .ok (.iaload, 1) := by decide +kernel
theorem dX1_firstBeatenBy_60 : decode cX1_firstBeatenBy 60 = .ok (.invokevirtual 58, 3) := by decide +kernel
theorem dX1_firstBeatenBy_63 : decode cX1_firstBeatenBy 63 = .ok (.ifCond .eq 5, 3) := by decide +kernel
theorem dX1_firstBeatenBy_66 : decode cX1_firstBeatenBy 66 = .ok (.iload_n 3, 1) := by decide +kernel
theorem dX1_firstBeatenBy_67 : decode cX1_firstBeatenBy 67 = .ok (.ireturn, 1) := by decide +kernel
theorem dX1_firstBeatenBy_68 : decode cX1_firstBeatenBy 68 = .ok (.iinc 3 1, 3) := by decide +kernel
theorem dX1_firstBeatenBy_71 : decode cX1_firstBeatenBy 71 = .ok (.goto (-51), 3) := by decide +kernel
theorem dX1_firstBeatenBy_74 : decode cX1_firstBeatenBy 74 = .ok (.iconst (-1), 1) := by decide +kernel
theorem dX1_firstBeatenBy_75 : decode cX1_firstBeatenBy 75 = .ok (.ireturn, 1) := by decide +kernel
theorem dX1_refillWinning_0 : decode cX1_refillWinning 0 = .ok (.iconst 0, 1) := by decide +kernel
theorem dX1_refillWinning_1 : decode cX1_refillWinning 1 = .ok (.istore_n 1, 1) := by decide +kernel
theorem dX1_refillWinning_2 : decode cX1_refillWinning 2 = .ok (.iload_n 1, 1) := by decide +kernel
theorem dX1_refillWinning_3 : decode cX1_refillWinning 3 = .ok (.aload_n 0, 1) := by decide +kernel
theorem dX1_refillWinning_4 : decode cX1_refillWinning 4 = .ok (.getfield 49, 3) := by decide +kernel
theorem dX1_refillWinning_7 : decode cX1_refillWinning 7 = .ok (.if_icmp .ge 28, 3) := by decide +kernel
theorem dX1_refillWinning_10 : decode cX1_refillWinning 10 = .ok (.iload_n 1, 1) := by decide +kernel
theorem dX1_refillWinning_11 : decode cX1_refillWinning 11 = .ok (.sipush 10000, 3) := by decide +kernel
theorem dX1_refillWinning_14 : decode cX1_refillWinning 14 = .ok (.if_icmp .ge 21, 3) := by decide +kernel
theorem dX1_refillWinning_17 : decode cX1_refillWinning 17 = .ok (.aload_n 0, 1) := by decide +kernel
theorem dX1_refillWinning_18 : decode cX1_refillWinning 18 = .ok (.getfield 18, 3) := by decide +kernel
theorem dX1_refillWinning_21 : decode cX1_refillWinning 21 = .ok (.aload_n 0, 1) := by decide +kernel
theorem dX1_refillWinning_22 : decode cX1_refillWinning 22 = .ok (.getfield 22, 3) := by decide +kernel
theorem dX1_refillWinning_25 : decode cX1_refillWinning 25 = .ok (.iload_n 1, 1) := by decide +kernel
theorem dX1_refillWinning_26 : decode cX1_refillWinning 26 = .ok (.iaload, 1) := by decide +kernel
theorem dX1_refillWinning_27 : decode cX1_refillWinning 27 = .ok (.iconst 1, 1) := by decide +kernel
theorem dX1_refillWinning_28 : decode cX1_refillWinning 28 = .ok (.bastore, 1) := by decide +kernel
theorem dX1_refillWinning_29 : decode cX1_refillWinning 29 = .ok (.iinc 1 1, 3) := by decide +kernel
theorem dX1_refillWinning_32 : decode cX1_refillWinning 32 = .ok (.goto (-30), 3) := by decide +kernel
theorem dX1_refillWinning_35 : decode cX1_refillWinning 35 = .ok (.return_, 1) := by decide +kernel
theorem dX2_init_0 : decode cX2_init 0 = .ok (.aload_n 0, 1) := by decide +kernel
theorem dX2_init_1 : decode cX2_init 1 = .ok (.invokespecial 3, 3) := by decide +kernel
theorem dX2_init_4 : decode cX2_init 4 = .ok (.aload_n 0, 1) := by decide +kernel
theorem dX2_init_5 : decode cX2_init 5 = .ok (.bipush 105, 2) := by decide +kernel
theorem dX2_init_7 : decode cX2_init 7 = .ok (.newarray .int, 2) := by decide +kernel
theorem dX2_init_9 : decode cX2_init 9 = .ok (.putfield 11, 3) := by decide +kernel
theorem dX2_init_12 : decode cX2_init 12 = .ok (.aload_n 0, 1) := by decide +kernel
theorem dX2_init_13 : decode cX2_init 13 = .ok (.bipush 105, 2) := by decide +kernel
theorem dX2_init_15 : decode cX2_init 15 = .ok (.newarray .int, 2) := by decide +kernel
theorem dX2_init_17 : decode cX2_init 17 = .ok (.putfield 15, 3) := by decide +kernel
theorem dX2_init_20 : decode cX2_init 20 = .ok (.aload_n 0, 1) := by decide +kernel
theorem dX2_init_21 : decode cX2_init 21 = .ok (.bipush 105, 2) := by decide +kernel
theorem dX2_init_23 : decode cX2_init 23 = .ok (.newarray .int, 2) := by decide +kernel
theorem dX2_init_25 : decode cX2_init 25 = .ok (.putfield 18, 3) := by decide +kernel
theorem dX2_init_28 : decode cX2_init 28 = .ok (.aload_n 0, 1) := by decide +kernel
theorem dX2_init_29 : decode cX2_init 29 = .ok (.iconst (-1), 1) := by decide +kernel
theorem dX2_init_30 : decode cX2_init 30 = .ok (.putfield 21, 3) := by decide +kernel
theorem dX2_init_33 : decode cX2_init 33 = .ok (.aload_n 0, 1) := by decide +kernel
theorem dX2_init_34 : decode cX2_init 34 = .ok (.aload_n 1, 1) := by decide +kernel
theorem dX2_init_35 : decode cX2_init 35 = .ok (.putfield 25, 3) := by decide +kernel
theorem dX2_init_38 : decode cX2_init 38 = .ok (.return_, 1) := by decide +kernel
theorem dX2_refresh_0 : decode cX2_refresh 0 = .ok (.aload_n 0, 1) := by decide +kernel
theorem dX2_refresh_1 : decode cX2_refresh 1 = .ok (.getfield 21, 3) := by decide +kernel
theorem dX2_refresh_4 : decode cX2_refresh 4 = .ok (.aload_n 0, 1) := by decide +kernel
theorem dX2_refresh_5 : decode cX2_refresh 5 = .ok (.getfield 25, 3) := by decide +kernel
theorem dX2_refresh_8 : decode cX2_refresh 8 = .ok (.getfield 29, 3) := by decide +kernel
theorem dX2_refresh_11 : decode cX2_refresh 11 = .ok (.if_icmp .ne 4, 3) := by decide +kernel
theorem dX2_refresh_14 : decode cX2_refresh 14 = .ok (.return_, 1) := by decide +kernel
theorem dX2_refresh_15 : decode cX2_refresh 15 = .ok (.aload_n 0, 1) := by decide +kernel
theorem dX2_refresh_16 : decode cX2_refresh 16 = .ok (.aload_n 0, 1) := by decide +kernel
theorem dX2_refresh_17 : decode cX2_refresh 17 = .ok (.getfield 25, 3) := by decide +kernel
theorem dX2_refresh_20 : decode cX2_refresh 20 = .ok (.getfield 29, 3) := by decide +kernel
theorem dX2_refresh_23 : decode cX2_refresh 23 = .ok (.putfield 21, 3) := by decide +kernel
theorem dX2_refresh_26 : decode cX2_refresh 26 = .ok (.aload_n 0, 1) := by decide +kernel
theorem dX2_refresh_27 : decode cX2_refresh 27 = .ok (.iconst 0, 1) := by decide +kernel
theorem dX2_refresh_28 : decode cX2_refresh 28 = .ok (.putfield 32, 3) := by decide +kernel
theorem dX2_refresh_31 : decode cX2_refresh 31 = .ok (.iconst 0, 1) := by decide +kernel
theorem dX2_refresh_32 : decode cX2_refresh 32 = .ok (.istore_n 1, 1) := by decide +kernel
theorem dX2_refresh_33 : decode cX2_refresh 33 = .ok (.iload_n 1, 1) := by decide +kernel
theorem dX2_refresh_34 : decode cX2_refresh 34 = .ok (.aload_n 0, 1) := by decide +kernel
theorem dX2_refresh_35 : decode cX2_refresh 35 = .ok (.getfield 25, 3) := by decide +kernel
theorem dX2_refresh_38 : decode cX2_refresh 38 = .ok (.getfield 35, 3) := by decide +kernel
theorem dX2_refresh_41 : decode cX2_refresh 41 = .ok (.if_icmp .ge 28, 3) := by decide +kernel
theorem dX2_refresh_44 : decode cX2_refresh 44 = .ok (.iconst 0, 1) := by decide +kernel
theorem dX2_refresh_45 : decode cX2_refresh 45 = .ok (.istore_n 2, 1) := by decide +kernel
theorem dX2_refresh_46 : decode cX2_refresh 46 = .ok (.iload_n 2, 1) := by decide +kernel
theorem dX2_refresh_47 : decode cX2_refresh 47 = .ok (.iload_n 1, 1) := by decide +kernel
theorem dX2_refresh_48 : decode cX2_refresh 48 = .ok (.if_icmp .ge 15, 3) := by decide +kernel
theorem dX2_refresh_51 : decode cX2_refresh 51 = .ok (.aload_n 0, 1) := by decide +kernel
theorem dX2_refresh_52 : decode cX2_refresh 52 = .ok (.iload_n 1, 1) := by decide +kernel
theorem dX2_refresh_53 : decode cX2_refresh 53 = .ok (.iload_n 2, 1) := by decide +kernel
theorem dX2_refresh_54 : decode cX2_refresh 54 = .ok (.invokevirtual 38, 3) := by decide +kernel
theorem dX2_refresh_57 : decode cX2_refresh 57 = .ok (.iinc 2 1, 3) := by decide +kernel
theorem dX2_refresh_60 : decode cX2_refresh 60 = .ok (.goto (-14), 3) := by decide +kernel
theorem dX2_refresh_63 : decode cX2_refresh 63 = .ok (.iinc 1 1, 3) := by decide +kernel
theorem dX2_refresh_66 : decode cX2_refresh 66 = .ok (.goto (-33), 3) := by decide +kernel
theorem dX2_refresh_69 : decode cX2_refresh 69 = .ok (.return_, 1) := by decide +kernel
theorem dX2_addThrough_0 : decode cX2_addThrough 0 = .ok (.aload_n 0, 1) := by decide +kernel
theorem dX2_addThrough_1 : decode cX2_addThrough 1 = .ok (.getfield 25, 3) := by decide +kernel
theorem dX2_addThrough_4 : decode cX2_addThrough 4 = .ok (.getfield 42, 3) := by decide +kernel
theorem dX2_addThrough_7 : decode cX2_addThrough 7 = .ok (.iload_n 2, 1) := by decide +kernel
theorem dX2_addThrough_8 : decode cX2_addThrough 8 = .ok (.iaload, 1) := by decide +kernel
theorem dX2_addThrough_9 : decode cX2_addThrough 9 = .ok (.aload_n 0, 1) := by decide +kernel
theorem dX2_addThrough_10 : decode cX2_addThrough 10 = .ok (.getfield 25, 3) := by decide +kernel
theorem dX2_addThrough_13 : decode cX2_addThrough 13 = .ok (.getfield 42, 3) := by decide +kernel
theorem dX2_addThrough_16 : decode cX2_addThrough 16 = .ok (.iload_n 1, 1) := by decide +kernel
theorem dX2_addThrough_17 : decode cX2_addThrough 17 = .ok (.iaload, 1) := by decide +kernel
theorem dX2_addThrough_18 : decode cX2_addThrough 18 = .ok (.isub, 1) := by decide +kernel
theorem dX2_addThrough_19 : decode cX2_addThrough 19 = .ok (.istore_n 3, 1) := by decide +kernel
theorem dX2_addThrough_20 : decode cX2_addThrough 20 = .ok (.aload_n 0, 1) := by decide +kernel
theorem dX2_addThrough_21 : decode cX2_addThrough 21 = .ok (.getfield 25, 3) := by decide +kernel
theorem dX2_addThrough_24 : decode cX2_addThrough 24 = .ok (.getfield 45, 3) := by decide +kernel
theorem dX2_addThrough_27 : decode cX2_addThrough 27 = .ok (.iload_n 1, 1) := by decide +kernel
theorem dX2_addThrough_28 : decode cX2_addThrough 28 = .ok (.iaload, 1) := by decide +kernel
theorem dX2_addThrough_29 : decode cX2_addThrough 29 = .ok (.aload_n 0, 1) := by decide +kernel
theorem dX2_addThrough_30 : decode cX2_addThrough 30 = .ok (.getfield 25, 3) := by decide +kernel
theorem dX2_addThrough_33 : decode cX2_addThrough 33 = .ok (.getfield 45, 3) := by decide +kernel
theorem dX2_addThrough_36 : decode cX2_addThrough 36 = .ok (.iload_n 2, 1) := by decide +kernel
theorem dX2_addThrough_37 : decode cX2_addThrough 37 = .ok (.iaload, 1) := by decide +kernel
theorem dX2_addThrough_38 : decode cX2_addThrough 38 = .ok (.isub, 1) := by decide +kernel
theorem dX2_addThrough_39 : decode cX2_addThrough 39 = .ok (.istore 4, 2) := by decide +kernel
theorem dX2_addThrough_41 : decode cX2_addThrough 41 = .ok (.iload_n 3, 1) := by decide +kernel
theorem dX2_addThrough_42 : decode cX2_addThrough 42 = .ok (.i2l, 1) := by decide +kernel
theorem dX2_addThrough_43 : decode cX2_addThrough 43 = .ok (.iload 4, 2) := by decide +kernel
theorem dX2_addThrough_45 : decode cX2_addThrough 45 = .ok (.i2l, 1) := by decide +kernel
theorem dX2_addThrough_46 : decode cX2_addThrough 46 = .ok (.invokestatic 48, 3) := by decide +kernel
theorem dX2_addThrough_49 : decode cX2_addThrough 49 = .ok (.l2i, 1) := by decide +kernel
theorem dX2_addThrough_50 : decode cX2_addThrough 50 = .ok (.istore 5, 2) := by decide +kernel
theorem dX2_addThrough_52 : decode cX2_addThrough 52 = .ok (.iload_n 3, 1) := by decide +kernel
theorem dX2_addThrough_53 : decode cX2_addThrough 53 = .ok (.ifCond .lt 12, 3) := by decide +kernel
theorem dX2_addThrough_56 : decode cX2_addThrough 56 = .ok (.iload_n 3, 1) := by decide +kernel
theorem dX2_addThrough_57 : decode cX2_addThrough 57 = .ok (.ifCond .ne 13, 3) := by decide +kernel
theorem dX2_addThrough_60 : decode cX2_addThrough 60 = .ok (.iload 4, 2) := by decide +kernel
theorem dX2_addThrough_62 : decode cX2_addThrough 62 = .ok (.ifCond .ge 8, 3) := by decide +kernel
theorem dX2_addThrough_65 : decode cX2_addThrough 65 = .ok (.iload 5, 2) := by decide +kernel
theorem dX2_addThrough_67 : decode cX2_addThrough 67 = .ok (.ineg, 1) := by decide +kernel
theorem dX2_addThrough_68 : decode cX2_addThrough 68 = .ok (.istore 5, 2) := by decide +kernel
theorem dX2_addThrough_70 : decode cX2_addThrough 70 = .ok (.iload 5, 2) := by decide +kernel
theorem dX2_addThrough_72 : decode cX2_addThrough 72 = .ok (.ifCond .ne 4, 3) := by decide +kernel
theorem dX2_addThrough_75 : decode cX2_addThrough 75 = .ok (.return_, 1) := by decide +kernel
theorem dX2_addThrough_76 : decode cX2_addThrough 76 = .ok (.iload_n 3, 1) := by decide +kernel
theorem dX2_addThrough_77 : decode cX2_addThrough 77 = .ok (.iload 5, 2) := by decide +kernel
theorem dX2_addThrough_79 : decode cX2_addThrough 79 = .ok (.idiv, 1) := by decide +kernel
theorem dX2_addThrough_80 : decode cX2_addThrough 80 = .ok (.istore 6, 2) := by decide +kernel
theorem dX2_addThrough_82 : decode cX2_addThrough 82 = .ok (.iload 4, 2) := by decide +kernel
theorem dX2_addThrough_84 : decode cX2_addThrough 84 = .ok (.iload 5, 2) := by decide +kernel
theorem dX2_addThrough_86 : decode cX2_addThrough 86 = .ok (.idiv, 1) := by decide +kernel
theorem dX2_addThrough_87 : decode cX2_addThrough 87 = .ok (.istore 7, 2) := by decide +kernel
theorem dX2_addThrough_89 : decode cX2_addThrough 89 = .ok (.iload 6, 2) := by decide +kernel
theorem dX2_addThrough_91 : decode cX2_addThrough 91 = .ok (.aload_n 0, 1) := by decide +kernel
theorem dX2_addThrough_92 : decode cX2_addThrough 92 = .ok (.getfield 25, 3) := by decide +kernel
theorem dX2_addThrough_95 : decode cX2_addThrough 95 = .ok (.getfield 45, 3) := by decide +kernel
theorem dX2_addThrough_98 : decode cX2_addThrough 98 = .ok (.iload_n 1, 1) := by decide +kernel
theorem dX2_addThrough_99 : decode cX2_addThrough 99 = .ok (.iaload, 1) := by decide +kernel
theorem dX2_addThrough_100 : decode cX2_addThrough 100 = .ok (.imul, 1) := by decide +kernel
theorem dX2_addThrough_101 : decode cX2_addThrough 101 = .ok (.iload 7, 2) := by decide +kernel
theorem dX2_addThrough_103 : decode cX2_addThrough 103 = .ok (.aload_n 0, 1) := by decide +kernel
theorem dX2_addThrough_104 : decode cX2_addThrough 104 = .ok (.getfield 25, 3) := by decide +kernel
theorem dX2_addThrough_107 : decode cX2_addThrough 107 = .ok (.getfield 42, 3) := by decide +kernel
theorem dX2_addThrough_110 : decode cX2_addThrough 110 = .ok (.iload_n 1, 1) := by decide +kernel
theorem dX2_addThrough_111 : decode cX2_addThrough 111 = .ok (.iaload, 1) := by decide +kernel
theorem dX2_addThrough_112 : decode cX2_addThrough 112 = .ok (.imul, 1) := by decide +kernel
theorem dX2_addThrough_113 : decode cX2_addThrough 113 = .ok (.iadd, 1) := by decide +kernel
theorem dX2_addThrough_114 : decode cX2_addThrough 114 = .ok (.istore 8, 2) := by decide +kernel
theorem dX2_addThrough_116 : decode cX2_addThrough 116 = .ok (.aload_n 0, 1) := by decide +kernel
theorem dX2_addThrough_117 : decode cX2_addThrough 117 = .ok (.iload 6, 2) := by decide +kernel
theorem dX2_addThrough_119 : decode cX2_addThrough 119 = .ok (.iload 7, 2) := by decide +kernel
theorem dX2_addThrough_121 : decode cX2_addThrough 121 = .ok (.iload 8, 2) := by decide +kernel
theorem dX2_addThrough_123 : decode cX2_addThrough 123 = .ok (.invokevirtual 52, 3) := by decide +kernel
theorem dX2_addThrough_126 : decode cX2_addThrough 126 = .ok (.ifCond .eq 13, 3) := by decide +kernel
theorem dX2_addThrough_129 : decode cX2_addThrough 129 = .ok (.aload_n 0, 1) := by decide +kernel
theorem dX2_addThrough_130 : decode cX2_addThrough 130 = .ok (.iload 6, 2) := by decide +kernel
theorem dX2_addThrough_132 : decode cX2_addThrough 132 = .ok (.iload 7, 2) := by decide +kernel
theorem dX2_addThrough_134 : decode cX2_addThrough 134 = .ok (.iload 8, 2) := by decide +kernel
theorem dX2_addThrough_136 : decode cX2_addThrough 136 = .ok (.invokevirtual 56, 3) := by decide +kernel
theorem dX2_addThrough_139 : decode cX2_addThrough 139 = .ok (.return_, 1) := by decide +kernel
theorem dX2_isHalving_0 : decode cX2_isHalving 0 = .ok (.iconst 0, 1) := by decide +kernel
theorem dX2_isHalving_1 : decode cX2_isHalving 1 = .ok (.istore 4, 2) := by decide +kernel
theorem dX2_isHalving_3 : decode cX2_isHalving 3 = .ok (.iconst 0, 1) := by decide +kernel
theorem dX2_isHalving_4 : decode cX2_isHalving 4 = .ok (.istore 5, 2) := by decide +kernel
theorem dX2_isHalving_6 : decode cX2_isHalving 6 = .ok (.iconst 0, 1) := by decide +kernel
theorem dX2_isHalving_7 : decode cX2_isHalving 7 = .ok (.istore 6, 2) := by decide +kernel
theorem dX2_isHalving_9 : decode cX2_isHalving 9 = .ok (.iload 6, 2) := by decide +kernel
theorem dX2_isHalving_11 : decode cX2_isHalving 11 = .ok (.aload_n 0, 1) := by decide +kernel
theorem dX2_isHalving_12 : decode cX2_isHalving 12 = .ok (.getfield 25, 3) := by decide +kernel
theorem dX2_isHalving_15 : decode cX2_isHalving 15 = .ok (.getfield 35, 3) := by decide +kernel
theorem dX2_isHalving_18 : decode cX2_isHalving 18 = .ok (.if_icmp .ge 81, 3) := by decide +kernel
theorem dX2_isHalving_21 : decode cX2_isHalving 21 = .ok (.iload_n 1, 1) := by decide +kernel
theorem dX2_isHalving_22 : decode cX2_isHalving 22 = .ok (.aload_n 0, 1) := by decide +kernel
theorem dX2_isHalving_23 : decode cX2_isHalving 23 = .ok (.getfield 25, 3) := by decide +kernel
theorem dX2_isHalving_26 : decode cX2_isHalving 26 = .ok (.getfield 45, 3) := by decide +kernel
theorem dX2_isHalving_29 : decode cX2_isHalving 29 = .ok (.iload 6, 2) := by decide +kernel
theorem dX2_isHalving_31 : decode cX2_isHalving 31 = .ok (.iaload, 1) := by decide +kernel
theorem dX2_isHalving_32 : decode cX2_isHalving 32 = .ok (.imul, 1) := by decide +kernel
theorem dX2_isHalving_33 : decode cX2_isHalving 33 = .ok (.iload_n 2, 1) := by decide +kernel
theorem dX2_isHalving_34 : decode cX2_isHalving 34 = .ok (.aload_n 0, 1) := by decide +kernel
theorem dX2_isHalving_35 : decode cX2_isHalving 35 = .ok (.getfield 25, 3) := by decide +kernel
theorem dX2_isHalving_38 : decode cX2_isHalving 38 = .ok (.getfield 42, 3) := by decide +kernel
theorem dX2_isHalving_41 : decode cX2_isHalving 41 = .ok (.iload 6, 2) := by decide +kernel
theorem dX2_isHalving_43 : decode cX2_isHalving 43 = .ok (.iaload, 1) := by decide +kernel
theorem dX2_isHalving_44 : decode cX2_isHalving 44 = .ok (.imul, 1) := by decide +kernel
theorem dX2_isHalving_45 : decode cX2_isHalving 45 = .ok (.iadd, 1) := by decide +kernel
theorem dX2_isHalving_46 : decode cX2_isHalving 46 = .ok (.iload_n 3, 1) := by decide +kernel
theorem dX2_isHalving_47 : decode cX2_isHalving 47 = .ok (.isub, 1) := by decide +kernel
theorem dX2_isHalving_48 : decode cX2_isHalving 48 = .ok (.istore 7, 2) := by decide +kernel
theorem dX2_isHalving_50 : decode cX2_isHalving 50 = .ok (.iload 7, 2) := by decide +kernel
theorem dX2_isHalving_52 : decode cX2_isHalving 52 = .ok (.ifCond .ge 21, 3) := by decide +kernel
theorem dX2_isHalving_55 : decode cX2_isHalving 55 = .ok (.iload 4, 2) := by decide +kernel
theorem dX2_isHalving_57 : decode cX2_isHalving 57 = .ok (.aload_n 0, 1) := by decide +kernel
theorem dX2_isHalving_58 : decode cX2_isHalving 58 = .ok (.getfield 25, 3) := by decide +kernel
theorem dX2_isHalving_61 : decode cX2_isHalving 61 = .ok (.getfield 60, 3) := by decide +kernel
theorem dX2_isHalving_64 : decode cX2_isHalving 64 = .ok (.iload 6, 2) := by decide +kernel
theorem dX2_isHalving_66 : decode cX2_isHalving 66 = .ok (.iaload, 1) := by decide +kernel
theorem dX2_isHalving_67 : decode cX2_isHalving 67 = .ok (.iadd, 1) := by decide +kernel
theorem dX2_isHalving_68 : decode cX2_isHalving 68 = .ok (.istore 4, 2) := by decide +kernel
theorem dX2_isHalving_70 : decode cX2_isHalving 70 = .ok (.goto 23, 3) := by decide +kernel
theorem dX2_isHalving_73 : decode cX2_isHalving 73 = .ok (.iload 7, 2) := by decide +kernel
theorem dX2_isHalving_75 : decode cX2_isHalving 75 = .ok (.ifCond .le 18, 3) := by decide +kernel
theorem dX2_isHalving_78 : decode cX2_isHalving 78 = .ok (.iload 5, 2) := by decide +kernel
theorem dX2_isHalving_80 : decode cX2_isHalving 80 = .ok (.aload_n 0, 1) := by decide +kernel
theorem dX2_isHalving_81 : decode cX2_isHalving 81 = .ok (.getfield 25, 3) := by decide +kernel
theorem dX2_isHalving_84 : decode cX2_isHalving 84 = .ok (.getfield 60, 3) := by decide +kernel
theorem dX2_isHalving_87 : decode cX2_isHalving 87 = .ok (.iload 6, 2) := by decide +kernel
theorem dX2_isHalving_89 : decode cX2_isHalving 89 = .ok (.iaload, 1) := by decide +kernel
theorem dX2_isHalving_90 : decode cX2_isHalving 90 = .ok (.iadd, 1) := by decide +kernel
theorem dX2_isHalving_91 : decode cX2_isHalving 91 = .ok (.istore 5, 2) := by decide +kernel
theorem dX2_isHalving_93 : decode cX2_isHalving 93 = .ok (.iinc 6 1, 3) := by decide +kernel
theorem dX2_isHalving_96 : decode cX2_isHalving 96 = .ok (.goto (-87), 3) := by decide +kernel
theorem dX2_isHalving_99 : decode cX2_isHalving 99 = .ok (.aload_n 0, 1) := by decide +kernel
theorem dX2_isHalving_100 : decode cX2_isHalving 100 = .ok (.getfield 25, 3) := by decide +kernel
theorem dX2_isHalving_103 : decode cX2_isHalving 103 = .ok (.iload 4, 2) := by decide +kernel
theorem dX2_isHalving_105 : decode cX2_isHalving 105 = .ok (.invokevirtual 63, 3) := by decide +kernel
theorem dX2_isHalving_108 : decode cX2_isHalving 108 = .ok (.ifCond .ne 19, 3) := by decide +kernel
theorem dX2_isHalving_111 : decode cX2_isHalving 111 = .ok (.aload_n 0, 1) := by decide +kernel
theorem dX2_isHalving_112 : decode cX2_isHalving 112 = .ok (.getfield 25, 3) := by decide +kernel
theorem dX2_isHalving_115 : decode cX2_isHalving 115 = .ok (.iload 5, 2) := by decide +kernel
theorem dX2_isHalving_117 : decode cX2_isHalving 117 = .ok (.invokevirtual 63, 3) := by decide +kernel
theorem dX2_isHalving_120 : decode cX2_isHalving 120 = .ok (.ifCond .ne 7, 3) := by decide +kernel
theorem dX2_isHalving_123 : decode cX2_isHalving 123 = .ok (.iconst 1, 1) := by decide +kernel
theorem dX2_isHalving_124 : decode cX2_isHalving 124 = .ok (.goto 4, 3) := by decide +kernel
theorem dX2_isHalving_127 : decode cX2_isHalving 127 = .ok (.iconst 0, 1) := by decide +kernel
theorem dX2_isHalving_128 : decode cX2_isHalving 128 = .ok (.ireturn, 1) := by decide +kernel
theorem dX2_insert_0 : decode cX2_insert 0 = .ok (.iconst 0, 1) := by decide +kernel
theorem dX2_insert_1 : decode cX2_insert 1 = .ok (.istore 4, 2) := by decide +kernel
theorem dX2_insert_3 : decode cX2_insert 3 = .ok (.iload 4, 2) := by decide +kernel
theorem dX2_insert_5 : decode cX2_insert 5 = .ok (.aload_n 0, 1) := by decide +kernel
theorem dX2_insert_6 : decode cX2_insert 6 = .ok (.getfield 32, 3) := by decide +kernel
theorem dX2_insert_9 : decode cX2_insert 9 = .ok (.if_icmp .ge 21, 3) := by decide +kernel
theorem dX2_insert_12 : decode cX2_insert 12 = .ok (.aload_n 0, 1) := by decide +kernel
theorem dX2_insert_13 : decode cX2_insert 13 = .ok (.iload 4, 2) := by decide +kernel
theorem dX2_insert_15 : decode cX2_insert 15 = .ok (.iload_n 1, 1) := by decide +kernel
theorem dX2_insert_16 : decode cX2_insert 16 = .ok (.iload_n 2, 1) := by decide +kernel
theorem dX2_insert_17 : decode cX2_insert 17 = .ok (.iload_n 3, 1) := by decide +kernel
theorem dX2_insert_18 : decode cX2_insert 18 = .ok (.invokevirtual 67, 3) := by decide +kernel
theorem dX2_insert_21 : decode cX2_insert 21 = .ok (.ifCond .ge 9, 3) := by decide +kernel
theorem dX2_insert_24 : decode cX2_insert 24 = .ok (.iinc 4 1, 3) := by decide +kernel
theorem dX2_insert_27 : decode cX2_insert 27 = .ok (.goto (-24), 3) := by decide +kernel
theorem dX2_insert_30 : decode cX2_insert 30 = .ok (.aload_n 0, 1) := by decide +kernel
theorem dX2_insert_31 : decode cX2_insert 31 = .ok (.getfield 32, 3) := by decide +kernel
theorem dX2_insert_34 : decode cX2_insert 34 = .ok (.bipush 105, 2) := by decide +kernel
theorem dX2_insert_36 : decode cX2_insert 36 = .ok (.if_icmp .ge 24, 3) := by decide +kernel
theorem dX2_insert_39 : decode cX2_insert 39 = .ok (.iload 4, 2) := by decide +kernel
theorem dX2_insert_41 : decode cX2_insert 41 = .ok (.aload_n 0, 1) := by decide +kernel
theorem dX2_insert_42 : decode cX2_insert 42 = .ok (.getfield 32, 3) := by decide +kernel
theorem dX2_insert_45 : decode cX2_insert 45 = .ok (.if_icmp .ge 16, 3) := by decide +kernel
theorem dX2_insert_48 : decode cX2_insert 48 = .ok (.aload_n 0, 1) := by decide +kernel
theorem dX2_insert_49 : decode cX2_insert 49 = .ok (.iload 4, 2) := by decide +kernel
theorem dX2_insert_51 : decode cX2_insert 51 = .ok (.iload_n 1, 1) := by decide +kernel
theorem dX2_insert_52 : decode cX2_insert 52 = .ok (.iload_n 2, 1) := by decide +kernel
theorem dX2_insert_53 : decode cX2_insert 53 = .ok (.iload_n 3, 1) := by decide +kernel
theorem dX2_insert_54 : decode cX2_insert 54 = .ok (.invokevirtual 67, 3) := by decide +kernel
theorem dX2_insert_57 : decode cX2_insert 57 = .ok (.ifCond .ne 4, 3) := by decide +kernel
theorem dX2_insert_60 : decode cX2_insert 60 = .ok (.return_, 1) := by decide +kernel
theorem dX2_insert_61 : decode cX2_insert 61 = .ok (.aload_n 0, 1) := by decide +kernel
theorem dX2_insert_62 : decode cX2_insert 62 = .ok (.getfield 32, 3) := by decide +kernel
theorem dX2_insert_65 : decode cX2_insert 65 = .ok (.istore 5, 2) := by decide +kernel
theorem dX2_insert_67 : decode cX2_insert 67 = .ok (.iload 5, 2) := by decide +kernel
theorem dX2_insert_69 : decode cX2_insert 69 = .ok (.iload 4, 2) := by decide +kernel
theorem dX2_insert_71 : decode cX2_insert 71 = .ok (.if_icmp .le 57, 3) := by decide +kernel
theorem dX2_insert_74 : decode cX2_insert 74 = .ok (.aload_n 0, 1) := by decide +kernel
theorem dX2_insert_75 : decode cX2_insert 75 = .ok (.getfield 11, 3) := by decide +kernel
theorem dX2_insert_78 : decode cX2_insert 78 = .ok (.iload 5, 2) := by decide +kernel
theorem dX2_insert_80 : decode cX2_insert 80 = .ok (.aload_n 0, 1) := by decide +kernel
theorem dX2_insert_81 : decode cX2_insert 81 = .ok (.getfield 11, 3) := by decide +kernel
theorem dX2_insert_84 : decode cX2_insert 84 = .ok (.iload 5, 2) := by decide +kernel
theorem dX2_insert_86 : decode cX2_insert 86 = .ok (.iconst 1, 1) := by decide +kernel
theorem dX2_insert_87 : decode cX2_insert 87 = .ok (.isub, 1) := by decide +kernel
theorem dX2_insert_88 : decode cX2_insert 88 = .ok (.iaload, 1) := by decide +kernel
theorem dX2_insert_89 : decode cX2_insert 89 = .ok (.iastore, 1) := by decide +kernel
theorem dX2_insert_90 : decode cX2_insert 90 = .ok (.aload_n 0, 1) := by decide +kernel
theorem dX2_insert_91 : decode cX2_insert 91 = .ok (.getfield 15, 3) := by decide +kernel
theorem dX2_insert_94 : decode cX2_insert 94 = .ok (.iload 5, 2) := by decide +kernel
theorem dX2_insert_96 : decode cX2_insert 96 = .ok (.aload_n 0, 1) := by decide +kernel
theorem dX2_insert_97 : decode cX2_insert 97 = .ok (.getfield 15, 3) := by decide +kernel
theorem dX2_insert_100 : decode cX2_insert 100 = .ok (.iload 5, 2) := by decide +kernel
theorem dX2_insert_102 : decode cX2_insert 102 = .ok (.iconst 1, 1) := by decide +kernel
theorem dX2_insert_103 : decode cX2_insert 103 = .ok (.isub, 1) := by decide +kernel
theorem dX2_insert_104 : decode cX2_insert 104 = .ok (.iaload, 1) := by decide +kernel
theorem dX2_insert_105 : decode cX2_insert 105 = .ok (.iastore, 1) := by decide +kernel
theorem dX2_insert_106 : decode cX2_insert 106 = .ok (.aload_n 0, 1) := by decide +kernel
theorem dX2_insert_107 : decode cX2_insert 107 = .ok (.getfield 18, 3) := by decide +kernel
theorem dX2_insert_110 : decode cX2_insert 110 = .ok (.iload 5, 2) := by decide +kernel
theorem dX2_insert_112 : decode cX2_insert 112 = .ok (.aload_n 0, 1) := by decide +kernel
theorem dX2_insert_113 : decode cX2_insert 113 = .ok (.getfield 18, 3) := by decide +kernel
theorem dX2_insert_116 : decode cX2_insert 116 = .ok (.iload 5, 2) := by decide +kernel
theorem dX2_insert_118 : decode cX2_insert 118 = .ok (.iconst 1, 1) := by decide +kernel
theorem dX2_insert_119 : decode cX2_insert 119 = .ok (.isub, 1) := by decide +kernel
theorem dX2_insert_120 : decode cX2_insert 120 = .ok (.iaload, 1) := by decide +kernel
theorem dX2_insert_121 : decode cX2_insert 121 = .ok (.iastore, 1) := by decide +kernel
theorem dX2_insert_122 : decode cX2_insert 122 = .ok (.iinc 5 (-1), 3) := by decide +kernel
theorem dX2_insert_125 : decode cX2_insert 125 = .ok (.goto (-58), 3) := by decide +kernel
theorem dX2_insert_128 : decode cX2_insert 128 = .ok (.aload_n 0, 1) := by decide +kernel
theorem dX2_insert_129 : decode cX2_insert 129 = .ok (.getfield 11, 3) := by decide +kernel
theorem dX2_insert_132 : decode cX2_insert 132 = .ok (.iload 4, 2) := by decide +kernel
theorem dX2_insert_134 : decode cX2_insert 134 = .ok (.iload_n 1, 1) := by decide +kernel
theorem dX2_insert_135 : decode cX2_insert 135 = .ok (.iastore, 1) := by decide +kernel
theorem dX2_insert_136 : decode cX2_insert 136 = .ok (.aload_n 0, 1) := by decide +kernel
theorem dX2_insert_137 : decode cX2_insert 137 = .ok (.getfield 15, 3) := by decide +kernel
theorem dX2_insert_140 : decode cX2_insert 140 = .ok (.iload 4, 2) := by decide +kernel
theorem dX2_insert_142 : decode cX2_insert 142 = .ok (.iload_n 2, 1) := by decide +kernel
theorem dX2_insert_143 : decode cX2_insert 143 = .ok (.iastore, 1) := by decide +kernel
theorem dX2_insert_144 : decode cX2_insert 144 = .ok (.aload_n 0, 1) := by decide +kernel
theorem dX2_insert_145 : decode cX2_insert 145 = .ok (.getfield 18, 3) := by decide +kernel
theorem dX2_insert_148 : decode cX2_insert 148 = .ok (.iload 4, 2) := by decide +kernel
theorem dX2_insert_150 : decode cX2_insert 150 = .ok (.iload_n 3, 1) := by decide +kernel
theorem dX2_insert_151 : decode cX2_insert 151 = .ok (.iastore, 1) := by decide +kernel
theorem dX2_insert_152 : decode cX2_insert 152 = .ok (.aload_n 0, 1) := by decide +kernel
theorem dX2_insert_153 : decode cX2_insert 153 = .ok (.dup, 1) := by decide +kernel
theorem dX2_insert_154 : decode cX2_insert 154 = .ok (.getfield 32, 3) := by decide +kernel
theorem dX2_insert_157 : decode cX2_insert 157 = .ok (.iconst 1, 1) := by decide +kernel
theorem dX2_insert_158 : decode cX2_insert 158 = .ok (.iadd, 1) := by decide +kernel
theorem dX2_insert_159 : decode cX2_insert 159 = .ok (.putfield 32, 3) := by decide +kernel
theorem dX2_insert_162 : decode cX2_insert 162 = .ok (.return_, 1) := by decide +kernel
theorem dX2_order_0 : decode cX2_order 0 = .ok (.aload_n 0, 1) := by decide +kernel
theorem dX2_order_1 : decode cX2_order 1 = .ok (.getfield 11, 3) := by decide +kernel
theorem dX2_order_4 : decode cX2_order 4 = .ok (.iload_n 1, 1) := by decide +kernel
theorem dX2_order_5 : decode cX2_order 5 = .ok (.iaload, 1) := by decide +kernel
theorem dX2_order_6 : decode cX2_order 6 = .ok (.iload_n 2, 1) := by decide +kernel
theorem dX2_order_7 : decode cX2_order 7 = .ok (.if_icmp .ne 25, 3) := by decide +kernel
theorem dX2_order_10 : decode cX2_order 10 = .ok (.aload_n 0, 1) := by decide +kernel
theorem dX2_order_11 : decode cX2_order 11 = .ok (.getfield 15, 3) := by decide +kernel
theorem dX2_order_14 : decode cX2_order 14 = .ok (.iload_n 1, 1) := by decide +kernel
theorem dX2_order_15 : decode cX2_order 15 = .ok (.iaload, 1) := by decide +kernel
theorem dX2_order_16 : decode cX2_order 16 = .ok (.iload_n 3, 1) := by decide +kernel
theorem dX2_order_17 : decode cX2_order 17 = .ok (.if_icmp .ne 15, 3) := by decide +kernel
theorem dX2_order_20 : decode cX2_order 20 = .ok (.aload_n 0, 1) := by decide +kernel
theorem dX2_order_21 : decode cX2_order 21 = .ok (.getfield 18, 3) := by decide +kernel
theorem dX2_order_24 : decode cX2_order 24 = .ok (.iload_n 1, 1) := by decide +kernel
theorem dX2_order_25 : decode cX2_order 25 = .ok (.iaload, 1) := by decide +kernel
theorem dX2_order_26 : decode cX2_order 26 = .ok (.iload 4, 2) := by decide +kernel
theorem dX2_order_28 : decode cX2_order 28 = .ok (.invokestatic 71, 3) := by decide +kernel
theorem dX2_order_31 : decode cX2_order 31 = .ok (.ireturn, 1) := by decide +kernel
theorem dX2_order_32 : decode cX2_order 32 = .ok (.aload_n 0, 1) := by decide +kernel
theorem dX2_order_33 : decode cX2_order 33 = .ok (.getfield 11, 3) := by decide +kernel
theorem dX2_order_36 : decode cX2_order 36 = .ok (.iload_n 1, 1) := by decide +kernel
theorem dX2_order_37 : decode cX2_order 37 = .ok (.iaload, 1) := by decide +kernel
theorem dX2_order_38 : decode cX2_order 38 = .ok (.ifCond .eq 7, 3) := by decide +kernel
theorem dX2_order_41 : decode cX2_order 41 = .ok (.iload_n 2, 1) := by decide +kernel
theorem dX2_order_42 : decode cX2_order 42 = .ok (.ifCond .ne 18, 3) := by decide +kernel
theorem dX2_order_45 : decode cX2_order 45 = .ok (.aload_n 0, 1) := by decide +kernel
theorem dX2_order_46 : decode cX2_order 46 = .ok (.getfield 11, 3) := by decide +kernel
theorem dX2_order_49 : decode cX2_order 49 = .ok (.iload_n 1, 1) := by decide +kernel
theorem dX2_order_50 : decode cX2_order 50 = .ok (.iaload, 1) := by decide +kernel
theorem dX2_order_51 : decode cX2_order 51 = .ok (.ifCond .ne 7, 3) := by decide +kernel
theorem dX2_order_54 : decode cX2_order 54 = .ok (.iconst 1, 1) := by decide +kernel
theorem dX2_order_55 : decode cX2_order 55 = .ok (.goto 4, 3) := by decide +kernel
theorem dX2_order_58 : decode cX2_order 58 = .ok (.iconst (-1), 1) := by decide +kernel
theorem dX2_order_59 : decode cX2_order 59 = .ok (.ireturn, 1) := by decide +kernel
theorem dX2_order_60 : decode cX2_order 60 = .ok (.aload_n 0, 1) := by decide +kernel
theorem dX2_order_61 : decode cX2_order 61 = .ok (.getfield 15, 3) := by decide +kernel
theorem dX2_order_64 : decode cX2_order 64 = .ok (.iload_n 1, 1) := by decide +kernel
theorem dX2_order_65 : decode cX2_order 65 = .ok (.iaload, 1) := by decide +kernel
theorem dX2_order_66 : decode cX2_order 66 = .ok (.iload_n 2, 1) := by decide +kernel
theorem dX2_order_67 : decode cX2_order 67 = .ok (.imul, 1) := by decide +kernel
theorem dX2_order_68 : decode cX2_order 68 = .ok (.iload_n 3, 1) := by decide +kernel
theorem dX2_order_69 : decode cX2_order 69 = .ok (.aload_n 0, 1) := by decide +kernel
theorem dX2_order_70 : decode cX2_order 70 = .ok (.getfield 11, 3) := by decide +kernel
theorem dX2_order_73 : decode cX2_order 73 = .ok (.iload_n 1, 1) := by decide +kernel
theorem dX2_order_74 : decode cX2_order 74 = .ok (.iaload, 1) := by decide +kernel
theorem dX2_order_75 : decode cX2_order 75 = .ok (.imul, 1) := by decide +kernel
theorem dX2_order_76 : decode cX2_order 76 = .ok (.invokestatic 71, 3) := by decide +kernel
theorem dX2_order_79 : decode cX2_order 79 = .ok (.ireturn, 1) := by decide +kernel
theorem dX2_turnBetween_0 : decode cX2_turnBetween 0 = .ok (.aload_n 0, 1) := by decide +kernel
theorem dX2_turnBetween_1 : decode cX2_turnBetween 1 = .ok (.getfield 11, 3) := by decide +kernel
theorem dX2_turnBetween_4 : decode cX2_turnBetween 4 = .ok (.iload_n 1, 1) := by decide +kernel
theorem dX2_turnBetween_5 : decode cX2_turnBetween 5 = .ok (.iaload, 1) := by decide +kernel
theorem dX2_turnBetween_6 : decode cX2_turnBetween 6 = .ok (.i2l, 1) := by decide +kernel
theorem dX2_turnBetween_7 : decode cX2_turnBetween 7 = .ok (.aload_n 0, 1) := by decide +kernel
theorem dX2_turnBetween_8 : decode cX2_turnBetween 8 = .ok (.getfield 15, 3) := by decide +kernel
theorem dX2_turnBetween_11 : decode cX2_turnBetween 11 = .ok (.iload_n 2, 1) := by decide +kernel
theorem dX2_turnBetween_12 : decode cX2_turnBetween 12 = .ok (.iaload, 1) := by decide +kernel
theorem dX2_turnBetween_13 : decode cX2_turnBetween 13 = .ok (.i2l, 1) := by decide +kernel
theorem dX2_turnBetween_14 : decode cX2_turnBetween 14 = .ok (.lmul, 1) := by decide +kernel
theorem dX2_turnBetween_15 : decode cX2_turnBetween 15 = .ok (.aload_n 0, 1) := by decide +kernel
theorem dX2_turnBetween_16 : decode cX2_turnBetween 16 = .ok (.getfield 11, 3) := by decide +kernel
theorem dX2_turnBetween_19 : decode cX2_turnBetween 19 = .ok (.iload_n 2, 1) := by decide +kernel
theorem dX2_turnBetween_20 : decode cX2_turnBetween 20 = .ok (.iaload, 1) := by decide +kernel
theorem dX2_turnBetween_21 : decode cX2_turnBetween 21 = .ok (.i2l, 1) := by decide +kernel
theorem dX2_turnBetween_22 : decode cX2_turnBetween 22 = .ok (.aload_n 0, 1) := by decide +kernel
theorem dX2_turnBetween_23 : decode cX2_turnBetween 23 = .ok (.getfield 15, 3) := by decide +kernel
theorem dX2_turnBetween_26 : decode cX2_turnBetween 26 = .ok (.iload_n 1, 1) := by decide +kernel
theorem dX2_turnBetween_27 : decode cX2_turnBetween 27 = .ok (.iaload, 1) := by decide +kernel
theorem dX2_turnBetween_28 : decode cX2_turnBetween 28 = .ok (.i2l, 1) := by decide +kernel
theorem dX2_turnBetween_29 : decode cX2_turnBetween 29 = .ok (.lmul, 1) := by decide +kernel
theorem dX2_turnBetween_30 : decode cX2_turnBetween 30 = .ok (.lsub, 1) := by decide +kernel
theorem dX2_turnBetween_31 : decode cX2_turnBetween 31 = .ok (.lreturn, 1) := by decide +kernel
theorem dX2_crossingX_0 : decode cX2_crossingX 0 = .ok (.aload_n 0, 1) := by decide +kernel
theorem dX2_crossingX_1 : decode cX2_crossingX 1 = .ok (.getfield 18, 3) := by decide +kernel
theorem dX2_crossingX_4 : decode cX2_crossingX 4 = .ok (.iload_n 1, 1) := by decide +kernel
theorem dX2_crossingX_5 : decode cX2_crossingX 5 = .ok (.iaload, 1) := by decide +kernel
theorem dX2_crossingX_6 : decode cX2_crossingX 6 = .ok (.i2l, 1) := by decide +kernel
theorem dX2_crossingX_7 : decode cX2_crossingX 7 = .ok (.aload_n 0, 1) := by decide +kernel
theorem dX2_crossingX_8 : decode cX2_crossingX 8 = .ok (.getfield 15, 3) := by decide +kernel
theorem dX2_crossingX_11 : decode cX2_crossingX 11 = .ok (.iload_n 2, 1) := by decide +kernel
theorem dX2_crossingX_12 : decode cX2_crossingX 12 = .ok (.iaload, 1) := by decide +kernel
theorem dX2_crossingX_13 : decode cX2_crossingX 13 = .ok (.i2l, 1) := by decide +kernel
theorem dX2_crossingX_14 : decode cX2_crossingX 14 = .ok (.lmul, 1) := by decide +kernel
theorem dX2_crossingX_15 : decode cX2_crossingX 15 = .ok (.aload_n 0, 1) := by decide +kernel
theorem dX2_crossingX_16 : decode cX2_crossingX 16 = .ok (.getfield 18, 3) := by decide +kernel
theorem dX2_crossingX_19 : decode cX2_crossingX 19 = .ok (.iload_n 2, 1) := by decide +kernel
theorem dX2_crossingX_20 : decode cX2_crossingX 20 = .ok (.iaload, 1) := by decide +kernel
theorem dX2_crossingX_21 : decode cX2_crossingX 21 = .ok (.i2l, 1) := by decide +kernel
theorem dX2_crossingX_22 : decode cX2_crossingX 22 = .ok (.aload_n 0, 1) := by decide +kernel
theorem dX2_crossingX_23 : decode cX2_crossingX 23 = .ok (.getfield 15, 3) := by decide +kernel
theorem dX2_crossingX_26 : decode cX2_crossingX 26 = .ok (.iload_n 1, 1) := by decide +kernel
theorem dX2_crossingX_27 : decode cX2_crossingX 27 = .ok (.iaload, 1) := by decide +kernel
theorem dX2_crossingX_28 : decode cX2_crossingX 28 = .ok (.i2l, 1) := by decide +kernel
theorem dX2_crossingX_29 : decode cX2_crossingX 29 = .ok (.lmul, 1) := by decide +kernel
theorem dX2_crossingX_30 : decode cX2_crossingX 30 = .ok (.lsub, 1) := by decide +kernel
theorem dX2_crossingX_31 : decode cX2_crossingX 31 = .ok (.lreturn, 1) := by decide +kernel
theorem dX2_crossingY_0 : decode cX2_crossingY 0 = .ok (.aload_n 0, 1) := by decide +kernel
theorem dX2_crossingY_1 : decode cX2_crossingY 1 = .ok (.getfield 11, 3) := by decide +kernel
theorem dX2_crossingY_4 : decode cX2_crossingY 4 = .ok (.iload_n 1, 1) := by decide +kernel
theorem dX2_crossingY_5 : decode cX2_crossingY 5 = .ok (.iaload, 1) := by decide +kernel
theorem dX2_crossingY_6 : decode cX2_crossingY 6 = .ok (.i2l, 1) := by decide +kernel
theorem dX2_crossingY_7 : decode cX2_crossingY 7 = .ok (.aload_n 0, 1) := by decide +kernel
theorem dX2_crossingY_8 : decode cX2_crossingY 8 = .ok (.getfield 18, 3) := by decide +kernel
theorem dX2_crossingY_11 : decode cX2_crossingY 11 = .ok (.iload_n 2, 1) := by decide +kernel
theorem dX2_crossingY_12 : decode cX2_crossingY 12 = .ok (.iaload, 1) := by decide +kernel
theorem dX2_crossingY_13 : decode cX2_crossingY 13 = .ok (.i2l, 1) := by decide +kernel
theorem dX2_crossingY_14 : decode cX2_crossingY 14 = .ok (.lmul, 1) := by decide +kernel
theorem dX2_crossingY_15 : decode cX2_crossingY 15 = .ok (.aload_n 0, 1) := by decide +kernel
theorem dX2_crossingY_16 : decode cX2_crossingY 16 = .ok (.getfield 11, 3) := by decide +kernel
theorem dX2_crossingY_19 : decode cX2_crossingY 19 = .ok (.iload_n 2, 1) := by decide +kernel
theorem dX2_crossingY_20 : decode cX2_crossingY 20 = .ok (.iaload, 1) := by decide +kernel
theorem dX2_crossingY_21 : decode cX2_crossingY 21 = .ok (.i2l, 1) := by decide +kernel
theorem dX2_crossingY_22 : decode cX2_crossingY 22 = .ok (.aload_n 0, 1) := by decide +kernel
theorem dX2_crossingY_23 : decode cX2_crossingY 23 = .ok (.getfield 18, 3) := by decide +kernel
theorem dX2_crossingY_26 : decode cX2_crossingY 26 = .ok (.iload_n 1, 1) := by decide +kernel
theorem dX2_crossingY_27 : decode cX2_crossingY 27 = .ok (.iaload, 1) := by decide +kernel
theorem dX2_crossingY_28 : decode cX2_crossingY 28 = .ok (.i2l, 1) := by decide +kernel
theorem dX2_crossingY_29 : decode cX2_crossingY 29 = .ok (.lmul, 1) := by decide +kernel
theorem dX2_crossingY_30 : decode cX2_crossingY 30 = .ok (.lsub, 1) := by decide +kernel
theorem dX2_crossingY_31 : decode cX2_crossingY 31 = .ok (.lreturn, 1) := by decide +kernel
theorem dX3_init_0 : decode cX3_init 0 = .ok (.aload_n 0, 1) := by decide +kernel
theorem dX3_init_1 : decode cX3_init 1 = .ok (.invokespecial 3, 3) := by decide +kernel
theorem dX3_init_4 : decode cX3_init 4 = .ok (.aload_n 0, 1) := by decide +kernel
theorem dX3_init_5 : decode cX3_init 5 = .ok (.bipush 64, 2) := by decide +kernel
theorem dX3_init_7 : decode cX3_init 7 = .ok (.newarray .int, 2) := by decide +kernel
theorem dX3_init_9 : decode cX3_init 9 = .ok (.putfield 9, 3) := by decide +kernel
theorem dX3_init_12 : decode cX3_init 12 = .ok (.aload_n 0, 1) := by decide +kernel
theorem dX3_init_13 : decode cX3_init 13 = .ok (.sipush 256, 3) := by decide +kernel
theorem dX3_init_16 : decode cX3_init 16 = .ok (.newarray .long, 2) := by decide +kernel
theorem dX3_init_18 : decode cX3_init 18 = .ok (.putfield 15, 3) := by decide +kernel
theorem dX3_init_21 : decode cX3_init 21 = .ok (.aload_n 0, 1) := by decide +kernel
theorem dX3_init_22 : decode cX3_init 22 = .ok (.bipush 8, 2) := by decide +kernel
theorem dX3_init_24 : decode cX3_init 24 = .ok (.newarray .long, 2) := by decide +kernel
theorem dX3_init_26 : decode cX3_init 26 = .ok (.putfield 19, 3) := by decide +kernel
theorem dX3_init_29 : decode cX3_init 29 = .ok (.aload_n 0, 1) := by decide +kernel
theorem dX3_init_30 : decode cX3_init 30 = .ok (.iconst (-1), 1) := by decide +kernel
theorem dX3_init_31 : decode cX3_init 31 = .ok (.putfield 22, 3) := by decide +kernel
theorem dX3_init_34 : decode cX3_init 34 = .ok (.aload_n 0, 1) := by decide +kernel
theorem dX3_init_35 : decode cX3_init 35 = .ok (.iconst (-1), 1) := by decide +kernel
theorem dX3_init_36 : decode cX3_init 36 = .ok (.putfield 26, 3) := by decide +kernel
theorem dX3_init_39 : decode cX3_init 39 = .ok (.aload_n 0, 1) := by decide +kernel
theorem dX3_init_40 : decode cX3_init 40 = .ok (.iconst (-1), 1) := by decide +kernel
theorem dX3_init_41 : decode cX3_init 41 = .ok (.putfield 29, 3) := by decide +kernel
theorem dX3_init_44 : decode cX3_init 44 = .ok (.aload_n 0, 1) := by decide +kernel
theorem dX3_init_45 : decode cX3_init 45 = .ok (.aload_n 1, 1) := by decide +kernel
theorem dX3_init_46 : decode cX3_init 46 = .ok (.putfield 32, 3) := by decide +kernel
theorem dX3_init_49 : decode cX3_init 49 = .ok (.return_, 1) := by decide +kernel
theorem dX3_refresh_0 : decode cX3_refresh 0 = .ok (.aload_n 0, 1) := by decide +kernel
theorem dX3_refresh_1 : decode cX3_refresh 1 = .ok (.getfield 32, 3) := by decide +kernel
theorem dX3_refresh_4 : decode cX3_refresh 4 = .ok (.getfield 36, 3) := by decide +kernel
theorem dX3_refresh_7 : decode cX3_refresh 7 = .ok (.astore_n 1, 1) := by decide +kernel
theorem dX3_refresh_8 : decode cX3_refresh 8 = .ok (.aload_n 0, 1) := by decide +kernel
theorem dX3_refresh_9 : decode cX3_refresh 9 = .ok (.getfield 26, 3) := by decide +kernel
theorem dX3_refresh_12 : decode cX3_refresh 12 = .ok (.aload_n 1, 1) := by decide +kernel
theorem dX3_refresh_13 : decode cX3_refresh 13 = .ok (.getfield 42, 3) := by decide +kernel
theorem dX3_refresh_16 : decode cX3_refresh 16 = .ok (.if_icmp .ne 15, 3) := by decide +kernel
theorem dX3_refresh_19 : decode cX3_refresh 19 = .ok (.aload_n 0, 1) := by decide +kernel
theorem dX3_refresh_20 : decode cX3_refresh 20 = .ok (.getfield 29, 3) := by decide +kernel
theorem dX3_refresh_23 : decode cX3_refresh 23 = .ok (.aload_n 1, 1) := by decide +kernel
theorem dX3_refresh_24 : decode cX3_refresh 24 = .ok (.getfield 45, 3) := by decide +kernel
theorem dX3_refresh_27 : decode cX3_refresh 27 = .ok (.if_icmp .ne 4, 3) := by decide +kernel
theorem dX3_refresh_30 : decode cX3_refresh 30 = .ok (.return_, 1) := by decide +kernel
theorem dX3_refresh_31 : decode cX3_refresh 31 = .ok (.aload_n 0, 1) := by decide +kernel
theorem dX3_refresh_32 : decode cX3_refresh 32 = .ok (.aload_n 1, 1) := by decide +kernel
theorem dX3_refresh_33 : decode cX3_refresh 33 = .ok (.getfield 42, 3) := by decide +kernel
theorem dX3_refresh_36 : decode cX3_refresh 36 = .ok (.putfield 26, 3) := by decide +kernel
theorem dX3_refresh_39 : decode cX3_refresh 39 = .ok (.aload_n 0, 1) := by decide +kernel
theorem dX3_refresh_40 : decode cX3_refresh 40 = .ok (.aload_n 1, 1) := by decide +kernel
theorem dX3_refresh_41 : decode cX3_refresh 41 = .ok (.getfield 45, 3) := by decide +kernel
theorem dX3_refresh_44 : decode cX3_refresh 44 = .ok (.putfield 29, 3) := by decide +kernel
theorem dX3_refresh_47 : decode cX3_refresh 47 = .ok (.aload_n 0, 1) := by decide +kernel
theorem dX3_refresh_48 : decode cX3_refresh 48 = .ok (.bipush 8, 2) := by decide +kernel
theorem dX3_refresh_50 : decode cX3_refresh 50 = .ok (.aload_n 1, 1) := by decide +kernel
theorem dX3_refresh_51 : decode cX3_refresh 51 = .ok (.getfield 46, 3) := by decide +kernel
theorem dX3_refresh_54 : decode cX3_refresh 54 = .ok (.invokestatic 49, 3) := by decide +kernel
theorem dX3_refresh_57 : decode cX3_refresh 57 = .ok (.putfield 55, 3) := by decide +kernel
theorem dX3_refresh_60 : decode cX3_refresh 60 = .ok (.iconst 0, 1) := by decide +kernel
theorem dX3_refresh_61 : decode cX3_refresh 61 = .ok (.istore_n 2, 1) := by decide +kernel
theorem dX3_refresh_62 : decode cX3_refresh 62 = .ok (.iload_n 2, 1) := by decide +kernel
theorem dX3_refresh_63 : decode cX3_refresh 63 = .ok (.aload_n 0, 1) := by decide +kernel
theorem dX3_refresh_64 : decode cX3_refresh 64 = .ok (.getfield 55, 3) := by decide +kernel
theorem dX3_refresh_67 : decode cX3_refresh 67 = .ok (.if_icmp .ge 55, 3) := by decide +kernel
theorem dX3_refresh_70 : decode cX3_refresh 70 = .ok (.iconst 0, 1) := by decide +kernel
theorem dX3_refresh_71 : decode cX3_refresh 71 = .ok (.istore_n 3, 1) := by decide +kernel
theorem dX3_refresh_72 : decode cX3_refresh 72 = .ok (.iload_n 3, 1) := by decide +kernel
theorem dX3_refresh_73 : decode cX3_refresh 73 = .ok (.aload_n 0, 1) := by decide +kernel
theorem dX3_refresh_74 : decode cX3_refresh 74 = .ok (.getfield 55, 3) := by decide +kernel
theorem dX3_refresh_77 : decode cX3_refresh 77 = .ok (.if_icmp .ge 39, 3) := by decide +kernel
theorem dX3_refresh_80 : decode cX3_refresh 80 = .ok (.aload_n 0, 1) := by decide +kernel
theorem dX3_refresh_81 : decode cX3_refresh 81 = .ok (.getfield 9, 3) := by decide +kernel
theorem dX3_refresh_84 : decode cX3_refresh 84 = .ok (.iload_n 2, 1) := by decide +kernel
theorem dX3_refresh_85 : decode cX3_refresh 85 = .ok (.bipush 8, 2) := by decide +kernel
theorem dX3_refresh_87 : decode cX3_refresh 87 = .ok (.imul, 1) := by decide +kernel
theorem dX3_refresh_88 : decode cX3_refresh 88 = .ok (.iload_n 3, 1) := by decide +kernel
theorem dX3_refresh_89 : decode cX3_refresh 89 = .ok (.iadd, 1) := by decide +kernel
theorem dX3_refresh_90 : decode cX3_refresh 90 = .ok (.aload_n 0, 1) := by decide +kernel
theorem dX3_refresh_91 : decode cX3_refresh 91 = .ok (.getfield 32, 3) := by decide +kernel
theorem dX3_refresh_94 : decode cX3_refresh 94 = .ok (.iload_n 2, 1) := by decide +kernel
theorem dX3_refresh_95 : decode cX3_refresh 95 = .ok (.iload_n 3, 1) := by decide +kernel
theorem dX3_refresh_96 : decode cX3_refresh 96 = .ok (.invokevirtual 56, 3) := by decide +kernel
theorem dX3_refresh_99 : decode cX3_refresh 99 = .ok (.aload_n 0, 1) := by decide +kernel
theorem dX3_refresh_100 : decode cX3_refresh 100 = .ok (.getfield 32, 3) := by decide +kernel
theorem dX3_refresh_103 : decode cX3_refresh 103 = .ok (.iload_n 3, 1) := by decide +kernel
theorem dX3_refresh_104 : decode cX3_refresh 104 = .ok (.iload_n 2, 1) := by decide +kernel
theorem dX3_refresh_105 : decode cX3_refresh 105 = .ok (.invokevirtual 56, 3) := by decide +kernel
theorem dX3_refresh_108 : decode cX3_refresh 108 = .ok (.isub, 1) := by decide +kernel
theorem dX3_refresh_109 : decode cX3_refresh 109 = .ok (.iastore, 1) := by decide +kernel
theorem dX3_refresh_110 : decode cX3_refresh 110 = .ok (.iinc 3 1, 3) := by decide +kernel
theorem dX3_refresh_113 : decode cX3_refresh 113 = .ok (.goto (-41), 3) := by decide +kernel
theorem dX3_refresh_116 : decode cX3_refresh 116 = .ok (.iinc 2 1, 3) := by decide +kernel
theorem dX3_refresh_119 : decode cX3_refresh 119 = .ok (.goto (-57), 3) := by decide +kernel
theorem dX3_refresh_122 : decode cX3_refresh 122 = .ok (.aload_n 0, 1) := by decide +kernel
theorem dX3_refresh_123 : decode cX3_refresh 123 = .ok (.invokevirtual 59, 3) := by decide +kernel
theorem dX3_refresh_126 : decode cX3_refresh 126 = .ok (.aload_n 0, 1) := by decide +kernel
theorem dX3_refresh_127 : decode cX3_refresh 127 = .ok (.invokevirtual 62, 3) := by decide +kernel
theorem dX3_refresh_130 : decode cX3_refresh 130 = .ok (.aload_n 0, 1) := by decide +kernel
theorem dX3_refresh_131 : decode cX3_refresh 131 = .ok (.invokevirtual 65, 3) := by decide +kernel
theorem dX3_refresh_134 : decode cX3_refresh 134 = .ok (.return_, 1) := by decide +kernel
theorem dX3_gainOf_0 : decode cX3_gainOf 0 = .ok (.aload_n 0, 1) := by decide +kernel
theorem dX3_gainOf_1 : decode cX3_gainOf 1 = .ok (.getfield 9, 3) := by decide +kernel
theorem dX3_gainOf_4 : decode cX3_gainOf 4 = .ok (.iload_n 1, 1) := by decide +kernel
theorem dX3_gainOf_5 : decode cX3_gainOf 5 = .ok (.bipush 8, 2) := by decide +kernel
theorem dX3_gainOf_7 : decode cX3_gainOf 7 = .ok (.imul, 1) := by decide +kernel
theorem dX3_gainOf_8 : decode cX3_gainOf 8 = .ok (.iload_n 2, 1) := by decide +kernel
theorem dX3_gainOf_9 : decode cX3_gainOf 9 = .ok (.iadd, 1) := by decide +kernel
theorem dX3_gainOf_10 : decode cX3_gainOf 10 = .ok (.iaload, 1) := by decide +kernel
theorem dX3_gainOf_11 : decode cX3_gainOf 11 = .ok (.ireturn, 1) := by decide +kernel
theorem dX3_findRest_0 : decode cX3_findRest 0 = .ok (.aload_n 0, 1) := by decide +kernel
theorem dX3_findRest_1 : decode cX3_findRest 1 = .ok (.iconst (-1), 1) := by decide +kernel
theorem dX3_findRest_2 : decode cX3_findRest 2 = .ok (.putfield 22, 3) := by decide +kernel
theorem dX3_findRest_5 : decode cX3_findRest 5 = .ok (.aload_n 0, 1) := by decide +kernel
theorem dX3_findRest_6 : decode cX3_findRest 6 = .ok (.getfield 55, 3) := by decide +kernel
theorem dX3_findRest_9 : decode cX3_findRest 9 = .ok (.iconst 1, 1) := by decide +kernel
theorem dX3_findRest_10 : decode cX3_findRest 10 = .ok (.isub, 1) := by decide +kernel
theorem dX3_findRest_11 : decode cX3_findRest 11 = .ok (.istore_n 1, 1) := by decide +kernel
theorem dX3_findRest_12 : decode cX3_findRest 12 = .ok (.iload_n 1, 1) := by decide +kernel
theorem dX3_findRest_13 : decode cX3_findRest 13 = .ok (.ifCond .lt 55, 3) := by decide +kernel
theorem dX3_findRest_16 : decode cX3_findRest 16 = .ok (.iconst 1, 1) := by decide +kernel
theorem dX3_findRest_17 : decode cX3_findRest 17 = .ok (.istore_n 2, 1) := by decide +kernel
theorem dX3_findRest_18 : decode cX3_findRest 18 = .ok (.iconst 0, 1) := by decide +kernel
theorem dX3_findRest_19 : decode cX3_findRest 19 = .ok (.istore_n 3, 1) := by decide +kernel
theorem dX3_findRest_20 : decode cX3_findRest 20 = .ok (.iload_n 3, 1) := by decide +kernel
theorem dX3_findRest_21 : decode cX3_findRest 21 = .ok (.aload_n 0, 1) := by decide +kernel
theorem dX3_findRest_22 : decode cX3_findRest 22 = .ok (.getfield 55, 3) := by decide +kernel
theorem dX3_findRest_25 : decode cX3_findRest 25 = .ok (.if_icmp .ge 28, 3) := by decide +kernel
theorem dX3_findRest_28 : decode cX3_findRest 28 = .ok (.iload_n 2, 1) := by decide +kernel
theorem dX3_findRest_29 : decode cX3_findRest 29 = .ok (.ifCond .eq 16, 3) := by decide +kernel
theorem dX3_findRest_32 : decode cX3_findRest 32 = .ok (.aload_n 0, 1) := by decide +kernel
theorem dX3_findRest_33 : decode cX3_findRest 33 = .ok (.iload_n 3, 1) := by decide +kernel
theorem dX3_findRest_34 : decode cX3_findRest 34 = .ok (.iload_n 1, 1) := by decide +kernel
theorem dX3_findRest_35 : decode cX3_findRest 35 = .ok (.invokevirtual 68, 3) := by decide +kernel
theorem dX3_findRest_38 : decode cX3_findRest 38 = .ok (.ifCond .gt 7, 3) := by decide +kernel
theorem dX3_findRest_41 : decode cX3_findRest 41 = .ok (.iconst 1, 1) := by decide +kernel
theorem dX3_findRest_42 : decode cX3_findRest 42 = .ok (.goto 4, 3) := by decide +kernel
theorem dX3_findRest_45 : decode cX3_findRest 45 = .ok (.iconst 0, 1) := by decide +kernel
theorem dX3_findRest_46 : decode cX3_findRest 46 = .ok (.istore_n 2, 1) := by decide +kernel
theorem dX3_findRest_47 : decode cX3_findRest 47 = .ok (.iinc 3 1, 3) := by decide +kernel
theorem dX3_findRest_50 : decode cX3_findRest 50 = .ok (.goto (-30), 3) := by decide +kernel
theorem dX3_findRest_53 : decode cX3_findRest 53 = .ok (.iload_n 2, 1) := by decide +kernel
theorem dX3_findRest_54 : decode cX3_findRest 54 = .ok (.ifCond .eq 8, 3) := by decide +kernel
theorem dX3_findRest_57 : decode cX3_findRest 57 = .ok (.aload_n 0, 1) := by decide +kernel
theorem dX3_findRest_58 : decode cX3_findRest 58 = .ok (.iload_n 1, 1) := by decide +kernel
theorem dX3_findRest_59 : decode cX3_findRest 59 = .ok (.putfield 22, 3) := by decide +kernel
theorem dX3_findRest_62 : decode cX3_findRest 62 = .ok (.iinc 1 (-1), 3) := by decide +kernel
theorem dX3_findRest_65 : decode cX3_findRest 65 = .ok (.goto (-53), 3) := by decide +kernel
theorem dX3_findRest_68 : decode cX3_findRest 68 = .ok (.return_, 1) := by decide +kernel
theorem dX3_fillPfaffians_0 : decode cX3_fillPfaffians 0 = .ok (.aload_n 0, 1) := by decide +kernel
theorem dX3_fillPfaffians_1 : decode cX3_fillPfaffians 1 = .ok (.getfield 15, 3) := by decide +kernel
theorem dX3_fillPfaffians_4 : decode cX3_fillPfaffians 4 = .ok (.iconst 0, 1) := by decide +kernel
theorem dX3_fillPfaffians_5 : decode cX3_fillPfaffians 5 = .ok (.lconst 1, 1) := by decide +kernel
theorem dX3_fillPfaffians_6 : decode cX3_fillPfaffians 6 = .ok (.lastore, 1) := by decide +kernel
theorem dX3_fillPfaffians_7 : decode cX3_fillPfaffians 7 = .ok (.iconst 1, 1) := by decide +kernel
theorem dX3_fillPfaffians_8 : decode cX3_fillPfaffians 8 = .ok (.istore_n 1, 1) := by decide +kernel
theorem dX3_fillPfaffians_9 : decode cX3_fillPfaffians 9 = .ok (.iload_n 1, 1) := by decide +kernel
theorem dX3_fillPfaffians_10 : decode cX3_fillPfaffians 10 = .ok (.iconst 1, 1) := by decide +kernel
theorem dX3_fillPfaffians_11 : decode cX3_fillPfaffians 11 = .ok (.aload_n 0, 1) := by decide +kernel
theorem dX3_fillPfaffians_12 : decode cX3_fillPfaffians 12 = .ok (.getfield 55, 3) := by decide +kernel
theorem dX3_fillPfaffians_15 : decode cX3_fillPfaffians 15 = .ok (.ishl, 1) := by decide +kernel
theorem dX3_fillPfaffians_16 : decode cX3_fillPfaffians 16 = .ok (.if_icmp .ge 33, 3) := by decide +kernel
theorem dX3_fillPfaffians_19 : decode cX3_fillPfaffians 19 = .ok (.aload_n 0, 1) := by decide +kernel
theorem dX3_fillPfaffians_20 : decode cX3_fillPfaffians 20 = .ok (.getfield 15, 3) := by decide +kernel
theorem dX3_fillPfaffians_23 : decode cX3_fillPfaffians 23 = .ok (.iload_n 1, 1) := by decide +kernel
theorem dX3_fillPfaffians_24 : decode cX3_fillPfaffians 24 = .ok (.iload_n 1, 1) := by decide +kernel
theorem dX3_fillPfaffians_25 : decode cX3_fillPfaffians 25 = .ok (.invokestatic 71, 3) := by decide +kernel
theorem dX3_fillPfaffians_28 : decode cX3_fillPfaffians 28 = .ok (.iconst 2, 1) := by decide +kernel
theorem dX3_fillPfaffians_29 : decode cX3_fillPfaffians 29 = .ok (.irem, 1) := by decide +kernel
theorem dX3_fillPfaffians_30 : decode cX3_fillPfaffians 30 = .ok (.ifCond .ne 11, 3) := by decide +kernel
theorem dX3_fillPfaffians_33 : decode cX3_fillPfaffians 33 = .ok (.aload_n 0, 1) := by decide +kernel
theorem dX3_fillPfaffians_34 : decode cX3_fillPfaffians 34 = .ok (.iload_n 1, 1) := by decide +kernel
theorem dX3_fillPfaffians_35 : decode cX3_fillPfaffians 35 = .ok (.invokevirtual 77, 3) := by decide +kernel
theorem dX3_fillPfaffians_38 : decode cX3_fillPfaffians 38 = .ok (.goto 4, 3) := by decide +kernel
theorem dX3_fillPfaffians_41 : decode cX3_fillPfaffians 41 = .ok (.lconst 0, 1) := by decide +kernel
theorem dX3_fillPfaffians_42 : decode cX3_fillPfaffians 42 = .ok (.lastore, 1) := by decide +kernel
theorem dX3_fillPfaffians_43 : decode cX3_fillPfaffians 43 = .ok (.iinc 1 1, 3) := by decide +kernel
theorem dX3_fillPfaffians_46 : decode cX3_fillPfaffians 46 = .ok (.goto (-37), 3) := by decide +kernel
theorem dX3_fillPfaffians_49 : decode cX3_fillPfaffians 49 = .ok (.return_, 1) := by decide +kernel
theorem dX3_expand_0 : decode cX3_expand 0 = .ok (.iload_n 1, 1) := by decide +kernel
theorem dX3_expand_1 : decode cX3_expand 1 = .ok (.invokestatic 81, 3) := by decide +kernel
theorem dX3_expand_4 : decode cX3_expand 4 = .ok (.istore_n 2, 1) := by decide +kernel
theorem dX3_expand_5 : decode cX3_expand 5 = .ok (.iload_n 1, 1) := by decide +kernel
theorem dX3_expand_6 : decode cX3_expand 6 = .ok (.iload_n 1, 1) := by decide +kernel
theorem dX3_expand_7 : decode cX3_expand 7 = .ok (.iconst 1, 1) := by decide +kernel
theorem dX3_expand_8 : decode cX3_expand 8 = .ok (.isub, 1) := by decide +kernel
theorem dX3_expand_9 : decode cX3_expand 9 = .ok (.iand, 1) := by decide +kernel
theorem dX3_expand_10 : decode cX3_expand 10 = .ok (.istore_n 3, 1) := by decide +kernel
theorem dX3_expand_11 : decode cX3_expand 11 = .ok (.lconst 0, 1) := by decide +kernel
theorem dX3_expand_12 : decode cX3_expand 12 = .ok (.lstore 4, 2) := by decide +kernel
theorem dX3_expand_14 : decode cX3_expand 14 = .ok (.iconst 1, 1) := by decide +kernel
theorem dX3_expand_15 : decode cX3_expand 15 = .ok (.istore 6, 2) := by decide +kernel
theorem dX3_expand_17 : decode cX3_expand 17 = .ok (.iload_n 2, 1) := by decide +kernel
theorem dX3_expand_18 : decode cX3_expand 18 = .ok (.iconst 1, 1) := by decide +kernel
theorem dX3_expand_19 : decode cX3_expand 19 = .ok (.iadd, 1) := by decide +kernel
theorem dX3_expand_20 : decode cX3_expand 20 = .ok (.istore 7, 2) := by decide +kernel
theorem dX3_expand_22 : decode cX3_expand 22 = .ok (.iload 7, 2) := by decide +kernel
theorem dX3_expand_24 : decode cX3_expand 24 = .ok (.aload_n 0, 1) := by decide +kernel
theorem dX3_expand_25 : decode cX3_expand 25 = .ok (.getfield 55, 3) := by decide +kernel
theorem dX3_expand_28 : decode cX3_expand 28 = .ok (.if_icmp .ge 52, 3) := by decide +kernel
theorem dX3_expand_31 : decode cX3_expand 31 = .ok (.iload_n 3, 1) := by decide +kernel
theorem dX3_expand_32 : decode cX3_expand 32 = .ok (.iload 7, 2) := by decide +kernel
theorem dX3_expand_34 : decode cX3_expand 34 = .ok (.ishr, 1) := by decide +kernel
theorem dX3_expand_35 : decode cX3_expand 35 = .ok (.iconst 1, 1) := by decide +kernel
theorem dX3_expand_36 : decode cX3_expand 36 = .ok (.iand, 1) := by decide +kernel
theorem dX3_expand_37 : decode cX3_expand 37 = .ok (.iconst 1, 1) := by decide +kernel
theorem dX3_expand_38 : decode cX3_expand 38 = .ok (.if_icmp .ne 36, 3) := by decide +kernel
theorem dX3_expand_41 : decode cX3_expand 41 = .ok (.lload 4, 2) := by decide +kernel
theorem dX3_expand_43 : decode cX3_expand 43 = .ok (.iload 6, 2) := by decide +kernel
theorem dX3_expand_45 : decode cX3_expand 45 = .ok (.aload_n 0, 1) := by decide +kernel
theorem dX3_expand_46 : decode cX3_expand 46 = .ok (.iload_n 2, 1) := by decide +kernel
theorem dX3_expand_47 : decode cX3_expand 47 = .ok (.iload 7, 2) := by decide +kernel
theorem dX3_expand_49 : decode cX3_expand 49 = .ok (.invokevirtual 68, 3) := by decide +kernel
theorem dX3_expand_52 : decode cX3_expand 52 = .ok (.imul, 1) := by decide +kernel
theorem dX3_expand_53 : decode cX3_expand 53 = .ok (.i2l, 1) := by decide +kernel
theorem dX3_expand_54 : decode cX3_expand 54 = .ok (.aload_n 0, 1) := by decide +kernel
theorem dX3_expand_55 : decode cX3_expand 55 = .ok (.getfield 15, 3) := by decide +kernel
theorem dX3_expand_58 : decode cX3_expand 58 = .ok (.iload_n 3, 1) := by decide +kernel
theorem dX3_expand_59 : decode cX3_expand 59 = .ok (.iconst 1, 1) := by decide +kernel
theorem dX3_expand_60 : decode cX3_expand 60 = .ok (.iload 7, 2) := by decide +kernel
theorem dX3_expand_62 : decode cX3_expand 62 = .ok (.ishl, 1) := by decide +kernel
theorem dX3_expand_63 : decode cX3_expand 63 = .ok (.ixor, 1) := by decide +kernel
theorem dX3_expand_64 : decode cX3_expand 64 = .ok (.laload, 1) := by decide +kernel
theorem dX3_expand_65 : decode cX3_expand 65 = .ok (.lmul, 1) := by decide +kernel
theorem dX3_expand_66 : decode cX3_expand 66 = .ok (.ladd, 1) := by decide +kernel
theorem dX3_expand_67 : decode cX3_expand 67 = .ok (.lstore 4, 2) := by decide +kernel
theorem dX3_expand_69 : decode cX3_expand 69 = .ok (.iload 6, 2) := by decide +kernel
theorem dX3_expand_71 : decode cX3_expand 71 = .ok (.ineg, 1) := by decide +kernel
theorem dX3_expand_72 : decode cX3_expand 72 = .ok (.istore 6, 2) := by decide +kernel
theorem dX3_expand_74 : decode cX3_expand 74 = .ok (.iinc 7 1, 3) := by decide +kernel
theorem dX3_expand_77 : decode cX3_expand 77 = .ok (.goto (-55), 3) := by decide +kernel
theorem dX3_expand_80 : decode cX3_expand 80 = .ok (.lload 4, 2) := by decide +kernel
theorem dX3_expand_82 : decode cX3_expand 82 = .ok (.lreturn, 1) := by decide +kernel
theorem dX3_findLots_0 : decode cX3_findLots 0 = .ok (.aload_n 0, 1) := by decide +kernel
theorem dX3_findLots_1 : decode cX3_findLots 1 = .ok (.iconst 0, 1) := by decide +kernel
theorem dX3_findLots_2 : decode cX3_findLots 2 = .ok (.putfield 84, 3) := by decide +kernel
theorem dX3_findLots_5 : decode cX3_findLots 5 = .ok (.iconst 1, 1) := by decide +kernel
theorem dX3_findLots_6 : decode cX3_findLots 6 = .ok (.istore_n 1, 1) := by decide +kernel
theorem dX3_findLots_7 : decode cX3_findLots 7 = .ok (.iload_n 1, 1) := by decide +kernel
theorem dX3_findLots_8 : decode cX3_findLots 8 = .ok (.aload_n 0, 1) := by decide +kernel
theorem dX3_findLots_9 : decode cX3_findLots 9 = .ok (.getfield 55, 3) := by decide +kernel
theorem dX3_findLots_12 : decode cX3_findLots 12 = .ok (.if_icmp .gt 60, 3) := by decide +kernel
theorem dX3_findLots_15 : decode cX3_findLots 15 = .ok (.iconst 1, 1) := by decide +kernel
theorem dX3_findLots_16 : decode cX3_findLots 16 = .ok (.istore_n 2, 1) := by decide +kernel
theorem dX3_findLots_17 : decode cX3_findLots 17 = .ok (.iload_n 2, 1) := by decide +kernel
theorem dX3_findLots_18 : decode cX3_findLots 18 = .ok (.iconst 1, 1) := by decide +kernel
theorem dX3_findLots_19 : decode cX3_findLots 19 = .ok (.aload_n 0, 1) := by decide +kernel
theorem dX3_findLots_20 : decode cX3_findLots 20 = .ok (.getfield 55, 3) := by decide +kernel
theorem dX3_findLots_23 : decode cX3_findLots 23 = .ok (.ishl, 1) := by decide +kernel
theorem dX3_findLots_24 : decode cX3_findLots 24 = .ok (.if_icmp .ge 42, 3) := by decide +kernel
theorem dX3_findLots_27 : decode cX3_findLots 27 = .ok (.iload_n 2, 1) := by decide +kernel
theorem dX3_findLots_28 : decode cX3_findLots 28 = .ok (.invokestatic 71, 3) := by decide +kernel
theorem dX3_findLots_31 : decode cX3_findLots 31 = .ok (.iload_n 1, 1) := by decide +kernel
theorem dX3_findLots_32 : decode cX3_findLots 32 = .ok (.if_icmp .ne 28, 3) := by decide +kernel
theorem dX3_findLots_35 : decode cX3_findLots 35 = .ok (.aload_n 0, 1) := by decide +kernel
theorem dX3_findLots_36 : decode cX3_findLots 36 = .ok (.iload_n 2, 1) := by decide +kernel
theorem dX3_findLots_37 : decode cX3_findLots 37 = .ok (.invokevirtual 88, 3) := by decide +kernel
theorem dX3_findLots_40 : decode cX3_findLots 40 = .ok (.ifCond .eq 20, 3) := by decide +kernel
theorem dX3_findLots_43 : decode cX3_findLots 43 = .ok (.aload_n 0, 1) := by decide +kernel
theorem dX3_findLots_44 : decode cX3_findLots 44 = .ok (.invokevirtual 92, 3) := by decide +kernel
theorem dX3_findLots_47 : decode cX3_findLots 47 = .ok (.ifCond .eq 13, 3) := by decide +kernel
theorem dX3_findLots_50 : decode cX3_findLots 50 = .ok (.aload_n 0, 1) := by decide +kernel
theorem dX3_findLots_51 : decode cX3_findLots 51 = .ok (.iconst 1, 1) := by decide +kernel
theorem dX3_findLots_52 : decode cX3_findLots 52 = .ok (.putfield 84, 3) := by decide +kernel
theorem dX3_findLots_55 : decode cX3_findLots 55 = .ok (.aload_n 0, 1) := by decide +kernel
theorem dX3_findLots_56 : decode cX3_findLots 56 = .ok (.invokevirtual 96, 3) := by decide +kernel
theorem dX3_findLots_59 : decode cX3_findLots 59 = .ok (.return_, 1) := by decide +kernel
theorem dX3_findLots_60 : decode cX3_findLots 60 = .ok (.iinc 2 1, 3) := by decide +kernel
theorem dX3_findLots_63 : decode cX3_findLots 63 = .ok (.goto (-46), 3) := by decide +kernel
theorem dX3_findLots_66 : decode cX3_findLots 66 = .ok (.iinc 1 2, 3) := by decide +kernel
theorem dX3_findLots_69 : decode cX3_findLots 69 = .ok (.goto (-62), 3) := by decide +kernel
theorem dX3_findLots_72 : decode cX3_findLots 72 = .ok (.return_, 1) := by decide +kernel
theorem dX3_shareAmong_0 : decode cX3_shareAmong 0 = .ok (.aload_n 0, 1) := by decide +kernel
theorem dX3_shareAmong_1 : decode cX3_shareAmong 1 = .ok (.getfield 19, 3) := by decide +kernel
theorem dX3_shareAmong_4 : decode cX3_shareAmong 4 = .ok (.lconst 0, 1) := by decide +kernel
theorem dX3_shareAmong_5 : decode cX3_shareAmong 5 = .ok (.invokestatic 99, 3) := by decide +kernel
theorem dX3_shareAmong_8 : decode cX3_shareAmong 8 = .ok (.iconst 0, 1) := by decide +kernel
theorem dX3_shareAmong_9 : decode cX3_shareAmong 9 = .ok (.istore_n 2, 1) := by decide +kernel
theorem dX3_shareAmong_10 : decode cX3_shareAmong 10 = .ok (.iconst 1, 1) := by decide +kernel
theorem dX3_shareAmong_11 : decode cX3_shareAmong 11 = .ok (.istore_n 3, 1) := by decide +kernel
theorem dX3_shareAmong_12 : decode cX3_shareAmong 12 = .ok (.iconst 0, 1) := by decide +kernel
theorem dX3_shareAmong_13 : decode cX3_shareAmong 13 = .ok (.istore 4, 2) := by decide +kernel
theorem dX3_shareAmong_15 : decode cX3_shareAmong 15 = .ok (.iconst 0, 1) := by decide +kernel
theorem dX3_shareAmong_16 : decode cX3_shareAmong 16 = .ok (.istore 5, 2) := by decide +kernel
theorem dX3_shareAmong_18 : decode cX3_shareAmong 18 = .ok (.iload 5, 2) := by decide +kernel
theorem dX3_shareAmong_20 : decode cX3_shareAmong 20 = .ok (.aload_n 0, 1) := by decide +kernel
theorem dX3_shareAmong_21 : decode cX3_shareAmong 21 = .ok (.getfield 55, 3) := by decide +kernel
theorem dX3_shareAmong_24 : decode cX3_shareAmong 24 = .ok (.if_icmp .ge 98, 3) := by decide +kernel
theorem dX3_shareAmong_27 : decode cX3_shareAmong 27 = .ok (.iload_n 1, 1) := by decide +kernel
theorem dX3_shareAmong_28 : decode cX3_shareAmong 28 = .ok (.iload 5, 2) := by decide +kernel
theorem dX3_shareAmong_30 : decode cX3_shareAmong 30 = .ok (.ishr, 1) := by decide +kernel
theorem dX3_shareAmong_31 : decode cX3_shareAmong 31 = .ok (.iconst 1, 1) := by decide +kernel
theorem dX3_shareAmong_32 : decode cX3_shareAmong 32 = .ok (.iand, 1) := by decide +kernel
theorem dX3_shareAmong_33 : decode cX3_shareAmong 33 = .ok (.ifCond .ne 6, 3) := by decide +kernel
theorem dX3_shareAmong_36 : decode cX3_shareAmong 36 = .ok (.goto 80, 3) := by decide +kernel
theorem dX3_shareAmong_39 : decode cX3_shareAmong 39 = .ok (.iload_n 3, 1) := by decide +kernel
theorem dX3_shareAmong_40 : decode cX3_shareAmong 40 = .ok (.i2l, 1) := by decide +kernel
theorem dX3_shareAmong_41 : decode cX3_shareAmong 41 = .ok (.aload_n 0, 1) := by decide +kernel
theorem dX3_shareAmong_42 : decode cX3_shareAmong 42 = .ok (.getfield 15, 3) := by decide +kernel
theorem dX3_shareAmong_45 : decode cX3_shareAmong 45 = .ok (.iload_n 1, 1) := by decide +kernel
theorem dX3_shareAmong_46 : decode cX3_shareAmong 46 = .ok (.iconst 1, 1) := by decide +kernel
theorem dX3_shareAmong_47 : decode cX3_shareAmong 47 = .ok (.iload 5, 2) := by decide +kernel
theorem dX3_shareAmong_49 : decode cX3_shareAmong 49 = .ok (.ishl, 1) := by decide +kernel
theorem dX3_shareAmong_50 : decode cX3_shareAmong 50 = .ok (.ixor, 1) := by decide +kernel
theorem dX3_shareAmong_51 : decode cX3_shareAmong 51 = .ok (.laload, 1) := by decide +kernel
theorem dX3_shareAmong_52 : decode cX3_shareAmong 52 = .ok (.lmul, 1) := by decide +kernel
theorem dX3_shareAmong_53 : decode cX3_shareAmong 53 = .ok (.lstore 6, 2) := by decide +kernel
theorem dX3_shareAmong_55 : decode cX3_shareAmong 55 = .ok (.lload 6, 2) := by decide +kernel
theorem dX3_shareAmong_57 : decode cX3_shareAmong 57 = .ok (.lconst 0, 1) := by decide +kernel
theorem dX3_shareAmong_58 : decode cX3_shareAmong 58 = .ok (.lcmp, 1) := by decide +kernel
theorem dX3_shareAmong_59 : decode cX3_shareAmong 59 = .ok (.ifCond .eq 24, 3) := by decide +kernel
theorem dX3_shareAmong_62 : decode cX3_shareAmong 62 = .ok (.iload 4, 2) := by decide +kernel
theorem dX3_shareAmong_64 : decode cX3_shareAmong 64 = .ok (.ifCond .le 21, 3) := by decide +kernel
theorem dX3_shareAmong_67 : decode cX3_shareAmong 67 = .ok (.iload_n 2, 1) := by decide +kernel
theorem dX3_shareAmong_68 : decode cX3_shareAmong 68 = .ok (.lload 6, 2) := by decide +kernel
theorem dX3_shareAmong_70 : decode cX3_shareAmong 70 = .ok (.lconst 0, 1) := by decide +kernel
theorem dX3_shareAmong_71 : decode cX3_shareAmong 71 = .ok (.lcmp, 1) := by decide +kernel
theorem dX3_shareAmong_72 : decode cX3_shareAmong 72 = .ok (.ifCond .ge 7, 3) := by decide +kernel
theorem dX3_shareAmong_75 : decode cX3_shareAmong 75 = .ok (.iconst 1, 1) := by decide +kernel
theorem dX3_shareAmong_76 : decode cX3_shareAmong 76 = .ok (.goto 4, 3) := by decide +kernel
theorem dX3_shareAmong_79 : decode cX3_shareAmong 79 = .ok (.iconst 0, 1) := by decide +kernel
theorem dX3_shareAmong_80 : decode cX3_shareAmong 80 = .ok (.if_icmp .eq 5, 3) := by decide +kernel
theorem dX3_shareAmong_83 : decode cX3_shareAmong 83 = .ok (.iconst 0, 1) := by decide +kernel
theorem dX3_shareAmong_84 : decode cX3_shareAmong 84 = .ok (.ireturn, 1) := by decide +kernel
theorem dX3_shareAmong_85 : decode cX3_shareAmong 85 = .ok (.lload 6, 2) := by decide +kernel
theorem dX3_shareAmong_87 : decode cX3_shareAmong 87 = .ok (.lconst 0, 1) := by decide +kernel
theorem dX3_shareAmong_88 : decode cX3_shareAmong 88 = .ok (.lcmp, 1) := by decide +kernel
theorem dX3_shareAmong_89 : decode cX3_shareAmong 89 = .ok (.ifCond .ge 7, 3) := by decide +kernel
theorem dX3_shareAmong_92 : decode cX3_shareAmong 92 = .ok (.iconst 1, 1) := by decide +kernel
theorem dX3_shareAmong_93 : decode cX3_shareAmong 93 = .ok (.goto 4, 3) := by decide +kernel
theorem dX3_shareAmong_96 : decode cX3_shareAmong 96 = .ok (.iconst 0, 1) := by decide +kernel
theorem dX3_shareAmong_97 : decode cX3_shareAmong 97 = .ok (.istore_n 2, 1) := by decide +kernel
theorem dX3_shareAmong_98 : decode cX3_shareAmong 98 = .ok (.aload_n 0, 1) := by decide +kernel
theorem dX3_shareAmong_99 : decode cX3_shareAmong 99 = .ok (.getfield 19, 3) := by decide +kernel
theorem dX3_shareAmong_102 : decode cX3_shareAmong 102 = .ok (.iload 5, 2) := by decide +kernel
theorem dX3_shareAmong_104 : decode cX3_shareAmong 104 = .ok (.lload 6, 2) := by decide +kernel
theorem dX3_shareAmong_106 : decode cX3_shareAmong 106 = .ok (.invokestatic 105, 3) := by decide +kernel
theorem dX3_shareAmong_109 : decode cX3_shareAmong 109 = .ok (.lastore, 1) := by decide +kernel
theorem dX3_shareAmong_110 : decode cX3_shareAmong 110 = .ok (.iload_n 3, 1) := by decide +kernel
theorem dX3_shareAmong_111 : decode cX3_shareAmong 111 = .ok (.ineg, 1) := by decide +kernel
theorem dX3_shareAmong_112 : decode cX3_shareAmong 112 = .ok (.istore_n 3, 1) := by decide +kernel
theorem dX3_shareAmong_113 : decode cX3_shareAmong 113 = .ok (.iinc 4 1, 3) := by decide +kernel
theorem dX3_shareAmong_116 : decode cX3_shareAmong 116 = .ok (.iinc 5 1, 3) := by decide +kernel
theorem dX3_shareAmong_119 : decode cX3_shareAmong 119 = .ok (.goto (-101), 3) := by decide +kernel
theorem dX3_shareAmong_122 : decode cX3_shareAmong 122 = .ok (.iload 4, 2) := by decide +kernel
theorem dX3_shareAmong_124 : decode cX3_shareAmong 124 = .ok (.ifCond .le 7, 3) := by decide +kernel
theorem dX3_shareAmong_127 : decode cX3_shareAmong 127 = .ok (.iconst 1, 1) := by decide +kernel
theorem dX3_shareAmong_128 : decode cX3_shareAmong 128 = .ok (.goto 4, 3) := by decide +kernel
theorem dX3_shareAmong_131 : decode cX3_shareAmong 131 = .ok (.iconst 0, 1) := by decide +kernel
theorem dX3_shareAmong_132 : decode cX3_shareAmong 132 = .ok (.ireturn, 1) := by decide +kernel
theorem dX3_nobodyGains_0 : decode cX3_nobodyGains 0 = .ok (.iconst 0, 1) := by decide +kernel
theorem dX3_nobodyGains_1 : decode cX3_nobodyGains 1 = .ok (.istore_n 1, 1) := by decide +kernel
theorem dX3_nobodyGains_2 : decode cX3_nobodyGains 2 = .ok (.iload_n 1, 1) := by decide +kernel
theorem dX3_nobodyGains_3 : decode cX3_nobodyGains 3 = .ok (.aload_n 0, 1) := by decide +kernel
theorem dX3_nobodyGains_4 : decode cX3_nobodyGains 4 = .ok (.getfield 55, 3) := by decide +kernel
theorem dX3_nobodyGains_7 : decode cX3_nobodyGains 7 = .ok (.if_icmp .ge 56, 3) := by decide +kernel
theorem dX3_nobodyGains_10 : decode cX3_nobodyGains 10 = .ok (.lconst 0, 1) := by decide +kernel
theorem dX3_nobodyGains_11 : decode cX3_nobodyGains 11 = .ok (.lstore_n 2, 1) := by decide +kernel
theorem dX3_nobodyGains_12 : decode cX3_nobodyGains 12 = .ok (.iconst 0, 1) := by decide +kernel
theorem dX3_nobodyGains_13 : decode cX3_nobodyGains 13 = .ok (.istore 4, 2) := by decide +kernel
theorem dX3_nobodyGains_15 : decode cX3_nobodyGains 15 = .ok (.iload 4, 2) := by decide +kernel
theorem dX3_nobodyGains_17 : decode cX3_nobodyGains 17 = .ok (.aload_n 0, 1) := by decide +kernel
theorem dX3_nobodyGains_18 : decode cX3_nobodyGains 18 = .ok (.getfield 55, 3) := by decide +kernel
theorem dX3_nobodyGains_21 : decode cX3_nobodyGains 21 = .ok (.if_icmp .ge 28, 3) := by decide +kernel
theorem dX3_nobodyGains_24 : decode cX3_nobodyGains 24 = .ok (.lload_n 2, 1) := by decide +kernel
theorem dX3_nobodyGains_25 : decode cX3_nobodyGains 25 = .ok (.aload_n 0, 1) := by decide +kernel
theorem dX3_nobodyGains_26 : decode cX3_nobodyGains 26 = .ok (.iload_n 1, 1) := by decide +kernel
theorem dX3_nobodyGains_27 : decode cX3_nobodyGains 27 = .ok (.iload 4, 2) := by decide +kernel
theorem dX3_nobodyGains_29 : decode cX3_nobodyGains 29 = .ok (.invokevirtual 68, 3) := by decide +kernel
theorem dX3_nobodyGains_32 : decode cX3_nobodyGains 32 = .ok (.i2l, 1) := by decide +kernel
theorem dX3_nobodyGains_33 : decode cX3_nobodyGains 33 = .ok (.aload_n 0, 1) := by decide +kernel
theorem dX3_nobodyGains_34 : decode cX3_nobodyGains 34 = .ok (.getfield 19, 3) := by decide +kernel
theorem dX3_nobodyGains_37 : decode cX3_nobodyGains 37 = .ok (.iload 4, 2) := by decide +kernel
theorem dX3_nobodyGains_39 : decode cX3_nobodyGains 39 = .ok (.laload, 1) := by decide +kernel
theorem dX3_nobodyGains_40 : decode cX3_nobodyGains 40 = .ok (.lmul, 1) := by decide +kernel
theorem dX3_nobodyGains_41 : decode cX3_nobodyGains 41 = .ok (.ladd, 1) := by decide +kernel
theorem dX3_nobodyGains_42 : decode cX3_nobodyGains 42 = .ok (.lstore_n 2, 1) := by decide +kernel
theorem dX3_nobodyGains_43 : decode cX3_nobodyGains 43 = .ok (.iinc 4 1, 3) := by decide +kernel
theorem dX3_nobodyGains_46 : decode cX3_nobodyGains 46 = .ok (.goto (-31), 3) := by decide +kernel
theorem dX3_nobodyGains_49 : decode cX3_nobodyGains 49 = .ok (.lload_n 2, 1) := by decide +kernel
theorem dX3_nobodyGains_50 : decode cX3_nobodyGains 50 = .ok (.lconst 0, 1) := by decide +kernel
theorem dX3_nobodyGains_51 : decode cX3_nobodyGains 51 = .ok (.lcmp, 1) := by decide +kernel
theorem dX3_nobodyGains_52 : decode cX3_nobodyGains 52 = .ok (.ifCond .le 5, 3) := by decide +kernel
theorem dX3_nobodyGains_55 : decode cX3_nobodyGains 55 = .ok (.iconst 0, 1) := by decide +kernel
theorem dX3_nobodyGains_56 : decode cX3_nobodyGains 56 = .ok (.ireturn, 1) := by decide +kernel
theorem dX3_nobodyGains_57 : decode cX3_nobodyGains 57 = .ok (.iinc 1 1, 3) := by decide +kernel
theorem dX3_nobodyGains_60 : decode cX3_nobodyGains 60 = .ok (.goto (-58), 3) := by decide +kernel
theorem dX3_nobodyGains_63 : decode cX3_nobodyGains 63 = .ok (.iconst 1, 1) := by decide +kernel
theorem dX3_nobodyGains_64 : decode cX3_nobodyGains 64 = .ok (.ireturn, 1) := by decide +kernel
theorem dX3_reduce_0 : decode cX3_reduce 0 = .ok (.lconst 0, 1) := by decide +kernel
theorem dX3_reduce_1 : decode cX3_reduce 1 = .ok (.lstore_n 1, 1) := by decide +kernel
theorem dX3_reduce_2 : decode cX3_reduce 2 = .ok (.iconst 0, 1) := by decide +kernel
theorem dX3_reduce_3 : decode cX3_reduce 3 = .ok (.istore_n 3, 1) := by decide +kernel
theorem dX3_reduce_4 : decode cX3_reduce 4 = .ok (.iload_n 3, 1) := by decide +kernel
theorem dX3_reduce_5 : decode cX3_reduce 5 = .ok (.aload_n 0, 1) := by decide +kernel
theorem dX3_reduce_6 : decode cX3_reduce 6 = .ok (.getfield 55, 3) := by decide +kernel
theorem dX3_reduce_9 : decode cX3_reduce 9 = .ok (.if_icmp .ge 20, 3) := by decide +kernel
theorem dX3_reduce_12 : decode cX3_reduce 12 = .ok (.lload_n 1, 1) := by decide +kernel
theorem dX3_reduce_13 : decode cX3_reduce 13 = .ok (.aload_n 0, 1) := by decide +kernel
theorem dX3_reduce_14 : decode cX3_reduce 14 = .ok (.getfield 19, 3) := by decide +kernel
theorem dX3_reduce_17 : decode cX3_reduce 17 = .ok (.iload_n 3, 1) := by decide +kernel
theorem dX3_reduce_18 : decode cX3_reduce 18 = .ok (.laload, 1) := by decide +kernel
theorem dX3_reduce_19 : decode cX3_reduce 19 = .ok (.invokestatic 109, 3) := by decide +kernel
theorem dX3_reduce_22 : decode cX3_reduce 22 = .ok (.lstore_n 1, 1) := by decide +kernel
theorem dX3_reduce_23 : decode cX3_reduce 23 = .ok (.iinc 3 1, 3) := by decide +kernel
theorem dX3_reduce_26 : decode cX3_reduce 26 = .ok (.goto (-22), 3) := by decide +kernel
theorem dX3_reduce_29 : decode cX3_reduce 29 = .ok (.aload_n 0, 1) := by decide +kernel
theorem dX3_reduce_30 : decode cX3_reduce 30 = .ok (.lconst 0, 1) := by decide +kernel
theorem dX3_reduce_31 : decode cX3_reduce 31 = .ok (.putfield 113, 3) := by decide +kernel
theorem dX3_reduce_34 : decode cX3_reduce 34 = .ok (.iconst 0, 1) := by decide +kernel
theorem dX3_reduce_35 : decode cX3_reduce 35 = .ok (.istore_n 3, 1) := by decide +kernel
theorem dX3_reduce_36 : decode cX3_reduce 36 = .ok (.iload_n 3, 1) := by decide +kernel
theorem dX3_reduce_37 : decode cX3_reduce 37 = .ok (.aload_n 0, 1) := by decide +kernel
theorem dX3_reduce_38 : decode cX3_reduce 38 = .ok (.getfield 55, 3) := by decide +kernel
theorem dX3_reduce_41 : decode cX3_reduce 41 = .ok (.if_icmp .ge 40, 3) := by decide +kernel
theorem dX3_reduce_44 : decode cX3_reduce 44 = .ok (.lload_n 1, 1) := by decide +kernel
theorem dX3_reduce_45 : decode cX3_reduce 45 = .ok (.lconst 1, 1) := by decide +kernel
theorem dX3_reduce_46 : decode cX3_reduce 46 = .ok (.lcmp, 1) := by decide +kernel
theorem dX3_reduce_47 : decode cX3_reduce 47 = .ok (.ifCond .le 13, 3) := by decide +kernel
theorem dX3_reduce_50 : decode cX3_reduce 50 = .ok (.aload_n 0, 1) := by decide +kernel
theorem dX3_reduce_51 : decode cX3_reduce 51 = .ok (.getfield 19, 3) := by decide +kernel
theorem dX3_reduce_54 : decode cX3_reduce 54 = .ok (.iload_n 3, 1) := by decide +kernel
theorem dX3_reduce_55 : decode cX3_reduce 55 = .ok (.dup2, 1) := by decide +kernel
theorem dX3_reduce_56 : decode cX3_reduce 56 = .ok (.laload, 1) := by decide +kernel
theorem dX3_reduce_57 : decode cX3_reduce 57 = .ok (.lload_n 1, 1) := by decide +kernel
theorem dX3_reduce_58 : decode cX3_reduce 58 = .ok (.ldiv, 1) := by decide +kernel
theorem dX3_reduce_59 : decode cX3_reduce 59 = .ok (.lastore, 1) := by decide +kernel
theorem dX3_reduce_60 : decode cX3_reduce 60 = .ok (.aload_n 0, 1) := by decide +kernel
theorem dX3_reduce_61 : decode cX3_reduce 61 = .ok (.dup, 1) := by decide +kernel
theorem dX3_reduce_62 : decode cX3_reduce 62 = .ok (.getfield 113, 3) := by decide +kernel
theorem dX3_reduce_65 : decode cX3_reduce 65 = .ok (.aload_n 0, 1) := by decide +kernel
theorem dX3_reduce_66 : decode cX3_reduce 66 = .ok (.getfield 19, 3) := by decide +kernel
theorem dX3_reduce_69 : decode cX3_reduce 69 = .ok (.iload_n 3, 1) := by decide +kernel
theorem dX3_reduce_70 : decode cX3_reduce 70 = .ok (.laload, 1) := by decide +kernel
theorem dX3_reduce_71 : decode cX3_reduce 71 = .ok (.ladd, 1) := by decide +kernel
theorem dX3_reduce_72 : decode cX3_reduce 72 = .ok (.putfield 113, 3) := by decide +kernel
theorem dX3_reduce_75 : decode cX3_reduce 75 = .ok (.iinc 3 1, 3) := by decide +kernel
theorem dX3_reduce_78 : decode cX3_reduce 78 = .ok (.goto (-42), 3) := by decide +kernel
theorem dX3_reduce_81 : decode cX3_reduce 81 = .ok (.return_, 1) := by decide +kernel
theorem dX4_init_0 : decode cX4_init 0 = .ok (.aload_n 0, 1) := by decide +kernel
theorem dX4_init_1 : decode cX4_init 1 = .ok (.invokespecial 3, 3) := by decide +kernel
theorem dX4_init_4 : decode cX4_init 4 = .ok (.aload_n 0, 1) := by decide +kernel
theorem dX4_init_5 : decode cX4_init 5 = .ok (.bipush 15, 2) := by decide +kernel
theorem dX4_init_7 : decode cX4_init 7 = .ok (.newarray .long, 2) := by decide +kernel
theorem dX4_init_9 : decode cX4_init 9 = .ok (.putfield 11, 3) := by decide +kernel
theorem dX4_init_12 : decode cX4_init 12 = .ok (.aload_n 0, 1) := by decide +kernel
theorem dX4_init_13 : decode cX4_init 13 = .ok (.bipush 15, 2) := by decide +kernel
theorem dX4_init_15 : decode cX4_init 15 = .ok (.newarray .long, 2) := by decide +kernel
theorem dX4_init_17 : decode cX4_init 17 = .ok (.putfield 15, 3) := by decide +kernel
theorem dX4_init_20 : decode cX4_init 20 = .ok (.aload_n 0, 1) := by decide +kernel
theorem dX4_init_21 : decode cX4_init 21 = .ok (.bipush 15, 2) := by decide +kernel
theorem dX4_init_23 : decode cX4_init 23 = .ok (.newarray .long, 2) := by decide +kernel
theorem dX4_init_25 : decode cX4_init 25 = .ok (.putfield 18, 3) := by decide +kernel
theorem dX4_init_28 : decode cX4_init 28 = .ok (.aload_n 0, 1) := by decide +kernel
theorem dX4_init_29 : decode cX4_init 29 = .ok (.iconst 3, 1) := by decide +kernel
theorem dX4_init_30 : decode cX4_init 30 = .ok (.newarray .int, 2) := by decide +kernel
theorem dX4_init_32 : decode cX4_init 32 = .ok (.dup, 1) := by decide +kernel
theorem dX4_init_33 : decode cX4_init 33 = .ok (.iconst 0, 1) := by decide +kernel
theorem dX4_init_34 : decode cX4_init 34 = .ok (.iconst (-1), 1) := by decide +kernel
theorem dX4_init_35 : decode cX4_init 35 = .ok (.iastore, 1) := by decide +kernel
theorem dX4_init_36 : decode cX4_init 36 = .ok (.dup, 1) := by decide +kernel
theorem dX4_init_37 : decode cX4_init 37 = .ok (.iconst 1, 1) := by decide +kernel
theorem dX4_init_38 : decode cX4_init 38 = .ok (.iconst (-1), 1) := by decide +kernel
theorem dX4_init_39 : decode cX4_init 39 = .ok (.iastore, 1) := by decide +kernel
theorem dX4_init_40 : decode cX4_init 40 = .ok (.dup, 1) := by decide +kernel
theorem dX4_init_41 : decode cX4_init 41 = .ok (.iconst 2, 1) := by decide +kernel
theorem dX4_init_42 : decode cX4_init 42 = .ok (.iconst (-1), 1) := by decide +kernel
theorem dX4_init_43 : decode cX4_init 43 = .ok (.iastore, 1) := by decide +kernel
theorem dX4_init_44 : decode cX4_init 44 = .ok (.putfield 21, 3) := by decide +kernel
theorem dX4_init_47 : decode cX4_init 47 = .ok (.aload_n 0, 1) := by decide +kernel
theorem dX4_init_48 : decode cX4_init 48 = .ok (.iconst (-1), 1) := by decide +kernel
theorem dX4_init_49 : decode cX4_init 49 = .ok (.putfield 25, 3) := by decide +kernel
theorem dX4_init_52 : decode cX4_init 52 = .ok (.aload_n 0, 1) := by decide +kernel
theorem dX4_init_53 : decode cX4_init 53 = .ok (.aload_n 1, 1) := by decide +kernel
theorem dX4_init_54 : decode cX4_init 54 = .ok (.putfield 29, 3) := by decide +kernel
theorem dX4_init_57 : decode cX4_init 57 = .ok (.aload_n 0, 1) := by decide +kernel
theorem dX4_init_58 : decode cX4_init 58 = .ok (.aload_n 2, 1) := by decide +kernel
theorem dX4_init_59 : decode cX4_init 59 = .ok (.putfield 33, 3) := by decide +kernel
theorem dX4_init_62 : decode cX4_init 62 = .ok (.return_, 1) := by decide +kernel
theorem dX4_refresh_0 : decode cX4_refresh 0 = .ok (.aload_n 0, 1) := by decide +kernel
theorem dX4_refresh_1 : decode cX4_refresh 1 = .ok (.getfield 25, 3) := by decide +kernel
theorem dX4_refresh_4 : decode cX4_refresh 4 = .ok (.aload_n 0, 1) := by decide +kernel
theorem dX4_refresh_5 : decode cX4_refresh 5 = .ok (.getfield 29, 3) := by decide +kernel
theorem dX4_refresh_8 : decode cX4_refresh 8 = .ok (.getfield 37, 3) := by decide +kernel
theorem dX4_refresh_11 : decode cX4_refresh 11 = .ok (.if_icmp .ne 4, 3) := by decide +kernel
theorem dX4_refresh_14 : decode cX4_refresh 14 = .ok (.return_, 1) := by decide +kernel
theorem dX4_refresh_15 : decode cX4_refresh 15 = .ok (.aload_n 0, 1) := by decide +kernel
theorem dX4_refresh_16 : decode cX4_refresh 16 = .ok (.aload_n 0, 1) := by decide +kernel
theorem dX4_refresh_17 : decode cX4_refresh 17 = .ok (.getfield 29, 3) := by decide +kernel
theorem dX4_refresh_20 : decode cX4_refresh 20 = .ok (.getfield 37, 3) := by decide +kernel
theorem dX4_refresh_23 : decode cX4_refresh 23 = .ok (.putfield 25, 3) := by decide +kernel
theorem dX4_refresh_26 : decode cX4_refresh 26 = .ok (.aload_n 0, 1) := by decide +kernel
theorem dX4_refresh_27 : decode cX4_refresh 27 = .ok (.getfield 33, 3) := by decide +kernel
theorem dX4_refresh_30 : decode cX4_refresh 30 = .ok (.invokevirtual 40, 3) := by decide +kernel
theorem dX4_refresh_33 : decode cX4_refresh 33 = .ok (.aload_n 0, 1) := by decide +kernel
theorem dX4_refresh_34 : decode cX4_refresh 34 = .ok (.iconst 0, 1) := by decide +kernel
theorem dX4_refresh_35 : decode cX4_refresh 35 = .ok (.putfield 45, 3) := by decide +kernel
theorem dX4_refresh_38 : decode cX4_refresh 38 = .ok (.iconst 0, 1) := by decide +kernel
theorem dX4_refresh_39 : decode cX4_refresh 39 = .ok (.istore_n 1, 1) := by decide +kernel
theorem dX4_refresh_40 : decode cX4_refresh 40 = .ok (.iload_n 1, 1) := by decide +kernel
theorem dX4_refresh_41 : decode cX4_refresh 41 = .ok (.aload_n 0, 1) := by decide +kernel
theorem dX4_refresh_42 : decode cX4_refresh 42 = .ok (.getfield 29, 3) := by decide +kernel
theorem dX4_refresh_45 : decode cX4_refresh 45 = .ok (.getfield 48, 3) := by decide +kernel
theorem dX4_refresh_48 : decode cX4_refresh 48 = .ok (.if_icmp .ge 34, 3) := by decide +kernel
theorem dX4_refresh_51 : decode cX4_refresh 51 = .ok (.aload_n 0, 1) := by decide +kernel
theorem dX4_refresh_52 : decode cX4_refresh 52 = .ok (.aload_n 0, 1) := by decide +kernel
theorem dX4_refresh_53 : decode cX4_refresh 53 = .ok (.getfield 29, 3) := by decide +kernel
theorem dX4_refresh_56 : decode cX4_refresh 56 = .ok (.getfield 51, 3) := by decide +kernel
theorem dX4_refresh_59 : decode cX4_refresh 59 = .ok (.iload_n 1, 1) := by decide +kernel
theorem dX4_refresh_60 : decode cX4_refresh 60 = .ok (.iaload, 1) := by decide +kernel
theorem dX4_refresh_61 : decode cX4_refresh 61 = .ok (.i2l, 1) := by decide +kernel
theorem dX4_refresh_62 : decode cX4_refresh 62 = .ok (.aload_n 0, 1) := by decide +kernel
theorem dX4_refresh_63 : decode cX4_refresh 63 = .ok (.getfield 29, 3) := by decide +kernel
theorem dX4_refresh_66 : decode cX4_refresh 66 = .ok (.getfield 53, 3) := by decide +kernel
theorem dX4_refresh_69 : decode cX4_refresh 69 = .ok (.iload_n 1, 1) := by decide +kernel
theorem dX4_refresh_70 : decode cX4_refresh 70 = .ok (.iaload, 1) := by decide +kernel
theorem dX4_refresh_71 : decode cX4_refresh 71 = .ok (.i2l, 1) := by decide +kernel
theorem dX4_refresh_72 : decode cX4_refresh 72 = .ok (.lconst 1, 1) := by decide +kernel
theorem dX4_refresh_73 : decode cX4_refresh 73 = .ok (.invokevirtual 55, 3) := by decide +kernel
theorem dX4_refresh_76 : decode cX4_refresh 76 = .ok (.iinc 1 1, 3) := by decide +kernel
theorem dX4_refresh_79 : decode cX4_refresh 79 = .ok (.goto (-39), 3) := by decide +kernel
theorem dX4_refresh_82 : decode cX4_refresh 82 = .ok (.iconst 0, 1) := by decide +kernel
theorem dX4_refresh_83 : decode cX4_refresh 83 = .ok (.istore_n 1, 1) := by decide +kernel
theorem dX4_refresh_84 : decode cX4_refresh 84 = .ok (.iload_n 1, 1) := by decide +kernel
theorem dX4_refresh_85 : decode cX4_refresh 85 = .ok (.aload_n 0, 1) := by decide +kernel
theorem dX4_refresh_86 : decode cX4_refresh 86 = .ok (.getfield 33, 3) := by decide +kernel
theorem dX4_refresh_89 : decode cX4_refresh 89 = .ok (.getfield 59, 3) := by decide +kernel
theorem dX4_refresh_92 : decode cX4_refresh 92 = .ok (.if_icmp .ge 36, 3) := by decide +kernel
theorem dX4_refresh_95 : decode cX4_refresh 95 = .ok (.iload_n 1, 1) := by decide +kernel
theorem dX4_refresh_96 : decode cX4_refresh 96 = .ok (.iconst 1, 1) := by decide +kernel
theorem dX4_refresh_97 : decode cX4_refresh 97 = .ok (.iadd, 1) := by decide +kernel
theorem dX4_refresh_98 : decode cX4_refresh 98 = .ok (.istore_n 2, 1) := by decide +kernel
theorem dX4_refresh_99 : decode cX4_refresh 99 = .ok (.iload_n 2, 1) := by decide +kernel
theorem dX4_refresh_100 : decode cX4_refresh 100 = .ok (.aload_n 0, 1) := by decide +kernel
theorem dX4_refresh_101 : decode cX4_refresh 101 = .ok (.getfield 33, 3) := by decide +kernel
theorem dX4_refresh_104 : decode cX4_refresh 104 = .ok (.getfield 59, 3) := by decide +kernel
theorem dX4_refresh_107 : decode cX4_refresh 107 = .ok (.if_icmp .ge 15, 3) := by decide +kernel
theorem dX4_refresh_110 : decode cX4_refresh 110 = .ok (.aload_n 0, 1) := by decide +kernel
theorem dX4_refresh_111 : decode cX4_refresh 111 = .ok (.iload_n 1, 1) := by decide +kernel
theorem dX4_refresh_112 : decode cX4_refresh 112 = .ok (.iload_n 2, 1) := by decide +kernel
theorem dX4_refresh_113 : decode cX4_refresh 113 = .ok (.invokevirtual 60, 3) := by decide +kernel
theorem dX4_refresh_116 : decode cX4_refresh 116 = .ok (.iinc 2 1, 3) := by decide +kernel
theorem dX4_refresh_119 : decode cX4_refresh 119 = .ok (.goto (-20), 3) := by decide +kernel
theorem dX4_refresh_122 : decode cX4_refresh 122 = .ok (.iinc 1 1, 3) := by decide +kernel
theorem dX4_refresh_125 : decode cX4_refresh 125 = .ok (.goto (-41), 3) := by decide +kernel
theorem dX4_refresh_128 : decode cX4_refresh 128 = .ok (.aload_n 0, 1) := by decide +kernel
theorem dX4_refresh_129 : decode cX4_refresh 129 = .ok (.getfield 21, 3) := by decide +kernel
theorem dX4_refresh_132 : decode cX4_refresh 132 = .ok (.iconst (-1), 1) := by decide +kernel
theorem dX4_refresh_133 : decode cX4_refresh 133 = .ok (.invokestatic 64, 3) := by decide +kernel
theorem dX4_refresh_136 : decode cX4_refresh 136 = .ok (.aload_n 0, 1) := by decide +kernel
theorem dX4_refresh_137 : decode cX4_refresh 137 = .ok (.getfield 45, 3) := by decide +kernel
theorem dX4_refresh_140 : decode cX4_refresh 140 = .ok (.ifCond .ne 7, 3) := by decide +kernel
theorem dX4_refresh_143 : decode cX4_refresh 143 = .ok (.aload_n 0, 1) := by decide +kernel
theorem dX4_refresh_144 : decode cX4_refresh 144 = .ok (.invokevirtual 70, 3) := by decide +kernel
theorem dX4_refresh_147 : decode cX4_refresh 147 = .ok (.return_, 1) := by decide +kernel
theorem dX4_askCrossing_0 : decode cX4_askCrossing 0 = .ok (.aload_n 0, 1) := by decide +kernel
theorem dX4_askCrossing_1 : decode cX4_askCrossing 1 = .ok (.getfield 33, 3) := by decide +kernel
theorem dX4_askCrossing_4 : decode cX4_askCrossing 4 = .ok (.iload_n 1, 1) := by decide +kernel
theorem dX4_askCrossing_5 : decode cX4_askCrossing 5 = .ok (.iload_n 2, 1) := by decide +kernel
theorem dX4_askCrossing_6 : decode cX4_askCrossing 6 = .ok (.invokevirtual 73, 3) := by decide +kernel
theorem dX4_askCrossing_9 : decode cX4_askCrossing 9 = .ok (.lstore_n 3, 1) := by decide +kernel
theorem dX4_askCrossing_10 : decode cX4_askCrossing 10 = .ok (.lload_n 3, 1) := by decide +kernel
theorem dX4_askCrossing_11 : decode cX4_askCrossing 11 = .ok (.lconst 0, 1) := by decide +kernel
theorem dX4_askCrossing_12 : decode cX4_askCrossing 12 = .ok (.lcmp, 1) := by decide +kernel
theorem dX4_askCrossing_13 : decode cX4_askCrossing 13 = .ok (.ifCond .eq 26, 3) := by decide +kernel
theorem dX4_askCrossing_16 : decode cX4_askCrossing 16 = .ok (.aload_n 0, 1) := by decide +kernel
theorem dX4_askCrossing_17 : decode cX4_askCrossing 17 = .ok (.aload_n 0, 1) := by decide +kernel
theorem dX4_askCrossing_18 : decode cX4_askCrossing 18 = .ok (.getfield 33, 3) := by decide +kernel
theorem dX4_askCrossing_21 : decode cX4_askCrossing 21 = .ok (.iload_n 1, 1) := by decide +kernel
theorem dX4_askCrossing_22 : decode cX4_askCrossing 22 = .ok (.iload_n 2, 1) := by decide +kernel
theorem dX4_askCrossing_23 : decode cX4_askCrossing 23 = .ok (.invokevirtual 77, 3) := by decide +kernel
theorem dX4_askCrossing_26 : decode cX4_askCrossing 26 = .ok (.aload_n 0, 1) := by decide +kernel
theorem dX4_askCrossing_27 : decode cX4_askCrossing 27 = .ok (.getfield 33, 3) := by decide +kernel
theorem dX4_askCrossing_30 : decode cX4_askCrossing 30 = .ok (.iload_n 1, 1) := by decide +kernel
theorem dX4_askCrossing_31 : decode cX4_askCrossing 31 = .ok (.iload_n 2, 1) := by decide +kernel
theorem dX4_askCrossing_32 : decode cX4_askCrossing 32 = .ok (.invokevirtual 80, 3) := by decide +kernel
theorem dX4_askCrossing_35 : decode cX4_askCrossing 35 = .ok (.lload_n 3, 1) := by decide +kernel
theorem dX4_askCrossing_36 : decode cX4_askCrossing 36 = .ok (.invokevirtual 55, 3) := by decide +kernel
theorem dX4_askCrossing_39 : decode cX4_askCrossing 39 = .ok (.return_, 1) := by decide +kernel
theorem dX4_ask_0 : decode cX4_ask 0 = .ok (.lload_n 1, 1) := by decide +kernel
theorem dX4_ask_1 : decode cX4_ask 1 = .ok (.lload_n 3, 1) := by decide +kernel
theorem dX4_ask_2 : decode cX4_ask 2 = .ok (.invokestatic 83, 3) := by decide +kernel
theorem dX4_ask_5 : decode cX4_ask 5 = .ok (.lload 5, 2) := by decide +kernel
theorem dX4_ask_7 : decode cX4_ask 7 = .ok (.invokestatic 83, 3) := by decide +kernel
theorem dX4_ask_10 : decode cX4_ask 10 = .ok (.lstore 7, 2) := by decide +kernel
theorem dX4_ask_12 : decode cX4_ask 12 = .ok (.lload 5, 2) := by decide +kernel
theorem dX4_ask_14 : decode cX4_ask 14 = .ok (.lconst 0, 1) := by decide +kernel
theorem dX4_ask_15 : decode cX4_ask 15 = .ok (.lcmp, 1) := by decide +kernel
theorem dX4_ask_16 : decode cX4_ask 16 = .ok (.ifCond .ge 8, 3) := by decide +kernel
theorem dX4_ask_19 : decode cX4_ask 19 = .ok (.lload 7, 2) := by decide +kernel
theorem dX4_ask_21 : decode cX4_ask 21 = .ok (.lneg, 1) := by decide +kernel
theorem dX4_ask_22 : decode cX4_ask 22 = .ok (.lstore 7, 2) := by decide +kernel
theorem dX4_ask_24 : decode cX4_ask 24 = .ok (.lload 7, 2) := by decide +kernel
theorem dX4_ask_26 : decode cX4_ask 26 = .ok (.lconst 0, 1) := by decide +kernel
theorem dX4_ask_27 : decode cX4_ask 27 = .ok (.lcmp, 1) := by decide +kernel
theorem dX4_ask_28 : decode cX4_ask 28 = .ok (.ifCond .ne 4, 3) := by decide +kernel
theorem dX4_ask_31 : decode cX4_ask 31 = .ok (.return_, 1) := by decide +kernel
theorem dX4_ask_32 : decode cX4_ask 32 = .ok (.lload_n 1, 1) := by decide +kernel
theorem dX4_ask_33 : decode cX4_ask 33 = .ok (.lload 7, 2) := by decide +kernel
theorem dX4_ask_35 : decode cX4_ask 35 = .ok (.ldiv, 1) := by decide +kernel
theorem dX4_ask_36 : decode cX4_ask 36 = .ok (.lstore 9, 2) := by decide +kernel
theorem dX4_ask_38 : decode cX4_ask 38 = .ok (.lload_n 3, 1) := by decide +kernel
theorem dX4_ask_39 : decode cX4_ask 39 = .ok (.lload 7, 2) := by decide +kernel
theorem dX4_ask_41 : decode cX4_ask 41 = .ok (.ldiv, 1) := by decide +kernel
theorem dX4_ask_42 : decode cX4_ask 42 = .ok (.lstore 11, 2) := by decide +kernel
theorem dX4_ask_44 : decode cX4_ask 44 = .ok (.lload 5, 2) := by decide +kernel
theorem dX4_ask_46 : decode cX4_ask 46 = .ok (.lload 7, 2) := by decide +kernel
theorem dX4_ask_48 : decode cX4_ask 48 = .ok (.ldiv, 1) := by decide +kernel
theorem dX4_ask_49 : decode cX4_ask 49 = .ok (.lstore 13, 2) := by decide +kernel
theorem dX4_ask_51 : decode cX4_ask 51 = .ok (.aload_n 0, 1) := by decide +kernel
theorem dX4_ask_52 : decode cX4_ask 52 = .ok (.lload 9, 2) := by decide +kernel
theorem dX4_ask_54 : decode cX4_ask 54 = .ok (.lload 11, 2) := by decide +kernel
theorem dX4_ask_56 : decode cX4_ask 56 = .ok (.lload 13, 2) := by decide +kernel
theorem dX4_ask_58 : decode cX4_ask 58 = .ok (.invokevirtual 87, 3) := by decide +kernel
theorem dX4_ask_61 : decode cX4_ask 61 = .ok (.ifCond .eq 13, 3) := by decide +kernel
theorem dX4_ask_64 : decode cX4_ask 64 = .ok (.aload_n 0, 1) := by decide +kernel
theorem dX4_ask_65 : decode cX4_ask 65 = .ok (.lload 9, 2) := by decide +kernel
theorem dX4_ask_67 : decode cX4_ask 67 = .ok (.lload 11, 2) := by decide +kernel
theorem dX4_ask_69 : decode cX4_ask 69 = .ok (.lload 13, 2) := by decide +kernel
theorem dX4_ask_71 : decode cX4_ask 71 = .ok (.invokevirtual 91, 3) := by decide +kernel
theorem dX4_ask_74 : decode cX4_ask 74 = .ok (.return_, 1) := by decide +kernel
theorem dX4_isMiddle_0 : decode cX4_isMiddle 0 = .ok (.iconst 0, 1) := by decide +kernel
theorem dX4_isMiddle_1 : decode cX4_isMiddle 1 = .ok (.istore 7, 2) := by decide +kernel
theorem dX4_isMiddle_3 : decode cX4_isMiddle 3 = .ok (.iload 7, 2) := by decide +kernel
theorem dX4_isMiddle_5 : decode cX4_isMiddle 5 = .ok (.aload_n 0, 1) := by decide +kernel
theorem dX4_isMiddle_6 : decode cX4_isMiddle 6 = .ok (.getfield 29, 3) := by decide +kernel
theorem dX4_isMiddle_9 : decode cX4_isMiddle 9 = .ok (.getfield 48, 3) := by decide +kernel
theorem dX4_isMiddle_12 : decode cX4_isMiddle 12 = .ok (.if_icmp .ge 24, 3) := by decide +kernel
theorem dX4_isMiddle_15 : decode cX4_isMiddle 15 = .ok (.aload_n 0, 1) := by decide +kernel
theorem dX4_isMiddle_16 : decode cX4_isMiddle 16 = .ok (.iload 7, 2) := by decide +kernel
theorem dX4_isMiddle_18 : decode cX4_isMiddle 18 = .ok (.lload_n 1, 1) := by decide +kernel
theorem dX4_isMiddle_19 : decode cX4_isMiddle 19 = .ok (.lload_n 3, 1) := by decide +kernel
theorem dX4_isMiddle_20 : decode cX4_isMiddle 20 = .ok (.lload 5, 2) := by decide +kernel
theorem dX4_isMiddle_22 : decode cX4_isMiddle 22 = .ok (.invokevirtual 94, 3) := by decide +kernel
theorem dX4_isMiddle_25 : decode cX4_isMiddle 25 = .ok (.ifCond .eq 5, 3) := by decide +kernel
theorem dX4_isMiddle_28 : decode cX4_isMiddle 28 = .ok (.iconst 0, 1) := by decide +kernel
theorem dX4_isMiddle_29 : decode cX4_isMiddle 29 = .ok (.ireturn, 1) := by decide +kernel
theorem dX4_isMiddle_30 : decode cX4_isMiddle 30 = .ok (.iinc 7 1, 3) := by decide +kernel
theorem dX4_isMiddle_33 : decode cX4_isMiddle 33 = .ok (.goto (-30), 3) := by decide +kernel
theorem dX4_isMiddle_36 : decode cX4_isMiddle 36 = .ok (.iconst 1, 1) := by decide +kernel
theorem dX4_isMiddle_37 : decode cX4_isMiddle 37 = .ok (.ireturn, 1) := by decide +kernel
theorem dX4_isCrowdedFrom_0 : decode cX4_isCrowdedFrom 0 = .ok (.lload 6, 2) := by decide +kernel
theorem dX4_isCrowdedFrom_2 : decode cX4_isCrowdedFrom 2 = .ok (.aload_n 0, 1) := by decide +kernel
theorem dX4_isCrowdedFrom_3 : decode cX4_isCrowdedFrom 3 = .ok (.getfield 29, 3) := by decide +kernel
theorem dX4_isCrowdedFrom_6 : decode cX4_isCrowdedFrom 6 = .ok (.getfield 51, 3) := by decide +kernel
theorem dX4_isCrowdedFrom_9 : decode cX4_isCrowdedFrom 9 = .ok (.iload_n 1, 1) := by decide +kernel
theorem dX4_isCrowdedFrom_10 : decode cX4_isCrowdedFrom 10 = .ok (.iaload, 1) := by decide +kernel
theorem dX4_isCrowdedFrom_11 : decode cX4_isCrowdedFrom 11 = .ok (.i2l, 1) := by decide +kernel
theorem dX4_isCrowdedFrom_12 : decode cX4_isCrowdedFrom 12 = .ok (.lmul, 1) := by decide +kernel
theorem dX4_isCrowdedFrom_13 : decode cX4_isCrowdedFrom 13 = .ok (.lload_n 2, 1) := by decide +kernel
theorem dX4_isCrowdedFrom_14 : decode cX4_isCrowdedFrom 14 = .ok (.lsub, 1) := by decide +kernel
theorem dX4_isCrowdedFrom_15 : decode cX4_isCrowdedFrom 15 = .ok (.lstore 8, 2) := by decide +kernel
theorem dX4_isCrowdedFrom_17 : decode cX4_isCrowdedFrom 17 = .ok (.lload 6, 2) := by decide +kernel
theorem dX4_isCrowdedFrom_19 : decode cX4_isCrowdedFrom 19 = .ok (.aload_n 0, 1) := by decide +kernel
theorem dX4_isCrowdedFrom_20 : decode cX4_isCrowdedFrom 20 = .ok (.getfield 29, 3) := by decide +kernel
theorem dX4_isCrowdedFrom_23 : decode cX4_isCrowdedFrom 23 = .ok (.getfield 53, 3) := by decide +kernel
theorem dX4_isCrowdedFrom_26 : decode cX4_isCrowdedFrom 26 = .ok (.iload_n 1, 1) := by decide +kernel
theorem dX4_isCrowdedFrom_27 : decode cX4_isCrowdedFrom 27 = .ok (.iaload, 1) := by decide +kernel
theorem dX4_isCrowdedFrom_28 : decode cX4_isCrowdedFrom 28 = .ok (.i2l, 1) := by decide +kernel
theorem dX4_isCrowdedFrom_29 : decode cX4_isCrowdedFrom 29 = .ok (.lmul, 1) := by decide +kernel
theorem dX4_isCrowdedFrom_30 : decode cX4_isCrowdedFrom 30 = .ok (.lload 4, 2) := by decide +kernel
theorem dX4_isCrowdedFrom_32 : decode cX4_isCrowdedFrom 32 = .ok (.lsub, 1) := by decide +kernel
theorem dX4_isCrowdedFrom_33 : decode cX4_isCrowdedFrom 33 = .ok (.lstore 10, 2) := by decide +kernel
theorem dX4_isCrowdedFrom_35 : decode cX4_isCrowdedFrom 35 = .ok (.iconst 0, 1) := by decide +kernel
theorem dX4_isCrowdedFrom_36 : decode cX4_isCrowdedFrom 36 = .ok (.istore 12, 2) := by decide +kernel
theorem dX4_isCrowdedFrom_38 : decode cX4_isCrowdedFrom 38 = .ok (.iconst 0, 1) := by decide +kernel
theorem dX4_isCrowdedFrom_39 : decode cX4_isCrowdedFrom 39 = .ok (.istore 13, 2) := by decide +kernel
theorem dX4_isCrowdedFrom_41 : decode cX4_isCrowdedFrom 41 = .ok (.iload 13, 2) := by decide +kernel
theorem dX4_isCrowdedFrom_43 : decode cX4_isCrowdedFrom 43 = .ok (.aload_n 0, 1) := by decide +kernel
theorem dX4_isCrowdedFrom_44 : decode cX4_isCrowdedFrom 44 = .ok (.getfield 29, 3) := by decide +kernel
theorem dX4_isCrowdedFrom_47 : decode cX4_isCrowdedFrom 47 = .ok (.getfield 48, 3) := by decide +kernel
theorem dX4_isCrowdedFrom_50 : decode cX4_isCrowdedFrom 50 = .ok (.if_icmp .ge 108, 3) := by decide +kernel
theorem dX4_isCrowdedFrom_53 : decode cX4_isCrowdedFrom 53 = .ok (.lload 6, 2) := by decide +kernel
theorem dX4_isCrowdedFrom_55 : decode cX4_isCrowdedFrom 55 = .ok (.aload_n 0, 1) := by decide +kernel
theorem dX4_isCrowdedFrom_56 : decode cX4_isCrowdedFrom 56 = .ok (.getfield 29, 3) := by decide +kernel
theorem dX4_isCrowdedFrom_59 : decode cX4_isCrowdedFrom 59 = .ok (.getfield 51, 3) := by decide +kernel
theorem dX4_isCrowdedFrom_62 : decode cX4_isCrowdedFrom 62 = .ok (.iload 13, 2) := by decide +kernel
theorem dX4_isCrowdedFrom_64 : decode cX4_isCrowdedFrom 64 = .ok (.iaload, 1) := by decide +kernel
theorem dX4_isCrowdedFrom_65 : decode cX4_isCrowdedFrom 65 = .ok (.i2l, 1) := by decide +kernel
theorem dX4_isCrowdedFrom_66 : decode cX4_isCrowdedFrom 66 = .ok (.lmul, 1) := by decide +kernel
theorem dX4_isCrowdedFrom_67 : decode cX4_isCrowdedFrom 67 = .ok (.lload_n 2, 1) := by decide +kernel
theorem dX4_isCrowdedFrom_68 : decode cX4_isCrowdedFrom 68 = .ok (.lsub, 1) := by decide +kernel
theorem dX4_isCrowdedFrom_69 : decode cX4_isCrowdedFrom 69 = .ok (.lstore 14, 2) := by decide +kernel
theorem dX4_isCrowdedFrom_71 : decode cX4_isCrowdedFrom 71 = .ok (.lload 6, 2) := by decide +kernel
theorem dX4_isCrowdedFrom_73 : decode cX4_isCrowdedFrom 73 = .ok (.aload_n 0, 1) := by decide +kernel
theorem dX4_isCrowdedFrom_74 : decode cX4_isCrowdedFrom 74 = .ok (.getfield 29, 3) := by decide +kernel
theorem dX4_isCrowdedFrom_77 : decode cX4_isCrowdedFrom 77 = .ok (.getfield 53, 3) := by decide +kernel
theorem dX4_isCrowdedFrom_80 : decode cX4_isCrowdedFrom 80 = .ok (.iload 13, 2) := by decide +kernel
theorem dX4_isCrowdedFrom_82 : decode cX4_isCrowdedFrom 82 = .ok (.iaload, 1) := by decide +kernel
theorem dX4_isCrowdedFrom_83 : decode cX4_isCrowdedFrom 83 = .ok (.i2l, 1) := by decide +kernel
theorem dX4_isCrowdedFrom_84 : decode cX4_isCrowdedFrom 84 = .ok (.lmul, 1) := by decide +kernel
theorem dX4_isCrowdedFrom_85 : decode cX4_isCrowdedFrom 85 = .ok (.lload 4, 2) := by decide +kernel
theorem dX4_isCrowdedFrom_87 : decode cX4_isCrowdedFrom 87 = .ok (.lsub, 1) := by decide +kernel
theorem dX4_isCrowdedFrom_88 : decode cX4_isCrowdedFrom 88 = .ok (.lstore 16, 2) := by decide +kernel
theorem dX4_isCrowdedFrom_90 : decode cX4_isCrowdedFrom 90 = .ok (.lload 8, 2) := by decide +kernel
theorem dX4_isCrowdedFrom_92 : decode cX4_isCrowdedFrom 92 = .ok (.lload 16, 2) := by decide +kernel
theorem dX4_isCrowdedFrom_94 : decode cX4_isCrowdedFrom 94 = .ok (.lmul, 1) := by decide +kernel
theorem dX4_isCrowdedFrom_95 : decode cX4_isCrowdedFrom 95 = .ok (.lload 10, 2) := by decide +kernel
theorem dX4_isCrowdedFrom_97 : decode cX4_isCrowdedFrom 97 = .ok (.lload 14, 2) := by decide +kernel
theorem dX4_isCrowdedFrom_99 : decode cX4_isCrowdedFrom 99 = .ok (.lmul, 1) := by decide +kernel
theorem dX4_isCrowdedFrom_100 : decode cX4_isCrowdedFrom 100 = .ok (.lsub, 1) := by decide +kernel
theorem dX4_isCrowdedFrom_101 : decode cX4_isCrowdedFrom 101 = .ok (.lstore 18, 2) := by decide +kernel
theorem dX4_isCrowdedFrom_103 : decode cX4_isCrowdedFrom 103 = .ok (.lload 8, 2) := by decide +kernel
theorem dX4_isCrowdedFrom_105 : decode cX4_isCrowdedFrom 105 = .ok (.lload 14, 2) := by decide +kernel
theorem dX4_isCrowdedFrom_107 : decode cX4_isCrowdedFrom 107 = .ok (.lmul, 1) := by decide +kernel
theorem dX4_isCrowdedFrom_108 : decode cX4_isCrowdedFrom 108 = .ok (.lload 10, 2) := by decide +kernel
theorem dX4_isCrowdedFrom_110 : decode cX4_isCrowdedFrom 110 = .ok (.lload 16, 2) := by decide +kernel
theorem dX4_isCrowdedFrom_112 : decode cX4_isCrowdedFrom 112 = .ok (.lmul, 1) := by decide +kernel
theorem dX4_isCrowdedFrom_113 : decode cX4_isCrowdedFrom 113 = .ok (.ladd, 1) := by decide +kernel
theorem dX4_isCrowdedFrom_114 : decode cX4_isCrowdedFrom 114 = .ok (.lstore 20, 2) := by decide +kernel
theorem dX4_isCrowdedFrom_116 : decode cX4_isCrowdedFrom 116 = .ok (.lload 18, 2) := by decide +kernel
theorem dX4_isCrowdedFrom_118 : decode cX4_isCrowdedFrom 118 = .ok (.lconst 0, 1) := by decide +kernel
theorem dX4_isCrowdedFrom_119 : decode cX4_isCrowdedFrom 119 = .ok (.lcmp, 1) := by decide +kernel
theorem dX4_isCrowdedFrom_120 : decode cX4_isCrowdedFrom 120 = .ok (.ifCond .gt 17, 3) := by decide +kernel
theorem dX4_isCrowdedFrom_123 : decode cX4_isCrowdedFrom 123 = .ok (.lload 18, 2) := by decide +kernel
theorem dX4_isCrowdedFrom_125 : decode cX4_isCrowdedFrom 125 = .ok (.lconst 0, 1) := by decide +kernel
theorem dX4_isCrowdedFrom_126 : decode cX4_isCrowdedFrom 126 = .ok (.lcmp, 1) := by decide +kernel
theorem dX4_isCrowdedFrom_127 : decode cX4_isCrowdedFrom 127 = .ok (.ifCond .ne 25, 3) := by decide +kernel
theorem dX4_isCrowdedFrom_130 : decode cX4_isCrowdedFrom 130 = .ok (.lload 20, 2) := by decide +kernel
theorem dX4_isCrowdedFrom_132 : decode cX4_isCrowdedFrom 132 = .ok (.lconst 0, 1) := by decide +kernel
theorem dX4_isCrowdedFrom_133 : decode cX4_isCrowdedFrom 133 = .ok (.lcmp, 1) := by decide +kernel
theorem dX4_isCrowdedFrom_134 : decode cX4_isCrowdedFrom 134 = .ok (.ifCond .le 18, 3) := by decide +kernel
theorem dX4_isCrowdedFrom_137 : decode cX4_isCrowdedFrom 137 = .ok (.iload 12, 2) := by decide +kernel
theorem dX4_isCrowdedFrom_139 : decode cX4_isCrowdedFrom 139 = .ok (.aload_n 0, 1) := by decide +kernel
theorem dX4_isCrowdedFrom_140 : decode cX4_isCrowdedFrom 140 = .ok (.getfield 29, 3) := by decide +kernel
theorem dX4_isCrowdedFrom_143 : decode cX4_isCrowdedFrom 143 = .ok (.getfield 98, 3) := by decide +kernel
theorem dX4_isCrowdedFrom_146 : decode cX4_isCrowdedFrom 146 = .ok (.iload 13, 2) := by decide +kernel
theorem dX4_isCrowdedFrom_148 : decode cX4_isCrowdedFrom 148 = .ok (.iaload, 1) := by decide +kernel
theorem dX4_isCrowdedFrom_149 : decode cX4_isCrowdedFrom 149 = .ok (.iadd, 1) := by decide +kernel
theorem dX4_isCrowdedFrom_150 : decode cX4_isCrowdedFrom 150 = .ok (.istore 12, 2) := by decide +kernel
theorem dX4_isCrowdedFrom_152 : decode cX4_isCrowdedFrom 152 = .ok (.iinc 13 1, 3) := by decide +kernel
theorem dX4_isCrowdedFrom_155 : decode cX4_isCrowdedFrom 155 = .ok (.goto (-114), 3) := by decide +kernel
theorem dX4_isCrowdedFrom_158 : decode cX4_isCrowdedFrom 158 = .ok (.aload_n 0, 1) := by decide +kernel
theorem dX4_isCrowdedFrom_159 : decode cX4_isCrowdedFrom 159 = .ok (.getfield 29, 3) := by decide +kernel
theorem dX4_isCrowdedFrom_162 : decode cX4_isCrowdedFrom 162 = .ok (.iload 12, 2) := by decide +kernel
theorem dX4_isCrowdedFrom_164 : decode cX4_isCrowdedFrom 164 = .ok (.invokevirtual 101, 3) := by decide +kernel
theorem dX4_isCrowdedFrom_167 : decode cX4_isCrowdedFrom 167 = .ok (.ireturn, 1) := by decide +kernel
theorem dX4_insert_0 : decode cX4_insert 0 = .ok (.iconst 0, 1) := by decide +kernel
theorem dX4_insert_1 : decode cX4_insert 1 = .ok (.istore 7, 2) := by decide +kernel
theorem dX4_insert_3 : decode cX4_insert 3 = .ok (.iload 7, 2) := by decide +kernel
theorem dX4_insert_5 : decode cX4_insert 5 = .ok (.aload_n 0, 1) := by decide +kernel
theorem dX4_insert_6 : decode cX4_insert 6 = .ok (.getfield 45, 3) := by decide +kernel
theorem dX4_insert_9 : decode cX4_insert 9 = .ok (.if_icmp .ge 22, 3) := by decide +kernel
theorem dX4_insert_12 : decode cX4_insert 12 = .ok (.aload_n 0, 1) := by decide +kernel
theorem dX4_insert_13 : decode cX4_insert 13 = .ok (.iload 7, 2) := by decide +kernel
theorem dX4_insert_15 : decode cX4_insert 15 = .ok (.lload_n 1, 1) := by decide +kernel
theorem dX4_insert_16 : decode cX4_insert 16 = .ok (.lload_n 3, 1) := by decide +kernel
theorem dX4_insert_17 : decode cX4_insert 17 = .ok (.lload 5, 2) := by decide +kernel
theorem dX4_insert_19 : decode cX4_insert 19 = .ok (.invokevirtual 105, 3) := by decide +kernel
theorem dX4_insert_22 : decode cX4_insert 22 = .ok (.ifCond .ge 9, 3) := by decide +kernel
theorem dX4_insert_25 : decode cX4_insert 25 = .ok (.iinc 7 1, 3) := by decide +kernel
theorem dX4_insert_28 : decode cX4_insert 28 = .ok (.goto (-25), 3) := by decide +kernel
theorem dX4_insert_31 : decode cX4_insert 31 = .ok (.aload_n 0, 1) := by decide +kernel
theorem dX4_insert_32 : decode cX4_insert 32 = .ok (.getfield 45, 3) := by decide +kernel
theorem dX4_insert_35 : decode cX4_insert 35 = .ok (.bipush 15, 2) := by decide +kernel
theorem dX4_insert_37 : decode cX4_insert 37 = .ok (.if_icmp .ge 25, 3) := by decide +kernel
theorem dX4_insert_40 : decode cX4_insert 40 = .ok (.iload 7, 2) := by decide +kernel
theorem dX4_insert_42 : decode cX4_insert 42 = .ok (.aload_n 0, 1) := by decide +kernel
theorem dX4_insert_43 : decode cX4_insert 43 = .ok (.getfield 45, 3) := by decide +kernel
theorem dX4_insert_46 : decode cX4_insert 46 = .ok (.if_icmp .ge 17, 3) := by decide +kernel
theorem dX4_insert_49 : decode cX4_insert 49 = .ok (.aload_n 0, 1) := by decide +kernel
theorem dX4_insert_50 : decode cX4_insert 50 = .ok (.iload 7, 2) := by decide +kernel
theorem dX4_insert_52 : decode cX4_insert 52 = .ok (.lload_n 1, 1) := by decide +kernel
theorem dX4_insert_53 : decode cX4_insert 53 = .ok (.lload_n 3, 1) := by decide +kernel
theorem dX4_insert_54 : decode cX4_insert 54 = .ok (.lload 5, 2) := by decide +kernel
theorem dX4_insert_56 : decode cX4_insert 56 = .ok (.invokevirtual 105, 3) := by decide +kernel
theorem dX4_insert_59 : decode cX4_insert 59 = .ok (.ifCond .ne 4, 3) := by decide +kernel
theorem dX4_insert_62 : decode cX4_insert 62 = .ok (.return_, 1) := by decide +kernel
theorem dX4_insert_63 : decode cX4_insert 63 = .ok (.aload_n 0, 1) := by decide +kernel
theorem dX4_insert_64 : decode cX4_insert 64 = .ok (.getfield 45, 3) := by decide +kernel
theorem dX4_insert_67 : decode cX4_insert 67 = .ok (.istore 8, 2) := by decide +kernel
theorem dX4_insert_69 : decode cX4_insert 69 = .ok (.iload 8, 2) := by decide +kernel
theorem dX4_insert_71 : decode cX4_insert 71 = .ok (.iload 7, 2) := by decide +kernel
theorem dX4_insert_73 : decode cX4_insert 73 = .ok (.if_icmp .le 57, 3) := by decide +kernel
theorem dX4_insert_76 : decode cX4_insert 76 = .ok (.aload_n 0, 1) := by decide +kernel
theorem dX4_insert_77 : decode cX4_insert 77 = .ok (.getfield 11, 3) := by decide +kernel
theorem dX4_insert_80 : decode cX4_insert 80 = .ok (.iload 8, 2) := by decide +kernel
theorem dX4_insert_82 : decode cX4_insert 82 = .ok (.aload_n 0, 1) := by decide +kernel
theorem dX4_insert_83 : decode cX4_insert 83 = .ok (.getfield 11, 3) := by decide +kernel
theorem dX4_insert_86 : decode cX4_insert 86 = .ok (.iload 8, 2) := by decide +kernel
theorem dX4_insert_88 : decode cX4_insert 88 = .ok (.iconst 1, 1) := by decide +kernel
theorem dX4_insert_89 : decode cX4_insert 89 = .ok (.isub, 1) := by decide +kernel
theorem dX4_insert_90 : decode cX4_insert 90 = .ok (.laload, 1) := by decide +kernel
theorem dX4_insert_91 : decode cX4_insert 91 = .ok (.lastore, 1) := by decide +kernel
theorem dX4_insert_92 : decode cX4_insert 92 = .ok (.aload_n 0, 1) := by decide +kernel
theorem dX4_insert_93 : decode cX4_insert 93 = .ok (.getfield 15, 3) := by decide +kernel
theorem dX4_insert_96 : decode cX4_insert 96 = .ok (.iload 8, 2) := by decide +kernel
theorem dX4_insert_98 : decode cX4_insert 98 = .ok (.aload_n 0, 1) := by decide +kernel
theorem dX4_insert_99 : decode cX4_insert 99 = .ok (.getfield 15, 3) := by decide +kernel
theorem dX4_insert_102 : decode cX4_insert 102 = .ok (.iload 8, 2) := by decide +kernel
theorem dX4_insert_104 : decode cX4_insert 104 = .ok (.iconst 1, 1) := by decide +kernel
theorem dX4_insert_105 : decode cX4_insert 105 = .ok (.isub, 1) := by decide +kernel
theorem dX4_insert_106 : decode cX4_insert 106 = .ok (.laload, 1) := by decide +kernel
theorem dX4_insert_107 : decode cX4_insert 107 = .ok (.lastore, 1) := by decide +kernel
theorem dX4_insert_108 : decode cX4_insert 108 = .ok (.aload_n 0, 1) := by decide +kernel
theorem dX4_insert_109 : decode cX4_insert 109 = .ok (.getfield 18, 3) := by decide +kernel
theorem dX4_insert_112 : decode cX4_insert 112 = .ok (.iload 8, 2) := by decide +kernel
theorem dX4_insert_114 : decode cX4_insert 114 = .ok (.aload_n 0, 1) := by decide +kernel
theorem dX4_insert_115 : decode cX4_insert 115 = .ok (.getfield 18, 3) := by decide +kernel
theorem dX4_insert_118 : decode cX4_insert 118 = .ok (.iload 8, 2) := by decide +kernel
theorem dX4_insert_120 : decode cX4_insert 120 = .ok (.iconst 1, 1) := by decide +kernel
theorem dX4_insert_121 : decode cX4_insert 121 = .ok (.isub, 1) := by decide +kernel
theorem dX4_insert_122 : decode cX4_insert 122 = .ok (.laload, 1) := by decide +kernel
theorem dX4_insert_123 : decode cX4_insert 123 = .ok (.lastore, 1) := by decide +kernel
theorem dX4_insert_124 : decode cX4_insert 124 = .ok (.iinc 8 (-1), 3) := by decide +kernel
theorem dX4_insert_127 : decode cX4_insert 127 = .ok (.goto (-58), 3) := by decide +kernel
theorem dX4_insert_130 : decode cX4_insert 130 = .ok (.aload_n 0, 1) := by decide +kernel
theorem dX4_insert_131 : decode cX4_insert 131 = .ok (.getfield 11, 3) := by decide +kernel
theorem dX4_insert_134 : decode cX4_insert 134 = .ok (.iload 7, 2) := by decide +kernel
theorem dX4_insert_136 : decode cX4_insert 136 = .ok (.lload_n 1, 1) := by decide +kernel
theorem dX4_insert_137 : decode cX4_insert 137 = .ok (.lastore, 1) := by decide +kernel
theorem dX4_insert_138 : decode cX4_insert 138 = .ok (.aload_n 0, 1) := by decide +kernel
theorem dX4_insert_139 : decode cX4_insert 139 = .ok (.getfield 15, 3) := by decide +kernel
theorem dX4_insert_142 : decode cX4_insert 142 = .ok (.iload 7, 2) := by decide +kernel
theorem dX4_insert_144 : decode cX4_insert 144 = .ok (.lload_n 3, 1) := by decide +kernel
theorem dX4_insert_145 : decode cX4_insert 145 = .ok (.lastore, 1) := by decide +kernel
theorem dX4_insert_146 : decode cX4_insert 146 = .ok (.aload_n 0, 1) := by decide +kernel
theorem dX4_insert_147 : decode cX4_insert 147 = .ok (.getfield 18, 3) := by decide +kernel
theorem dX4_insert_150 : decode cX4_insert 150 = .ok (.iload 7, 2) := by decide +kernel
theorem dX4_insert_152 : decode cX4_insert 152 = .ok (.lload 5, 2) := by decide +kernel
theorem dX4_insert_154 : decode cX4_insert 154 = .ok (.lastore, 1) := by decide +kernel
theorem dX4_insert_155 : decode cX4_insert 155 = .ok (.aload_n 0, 1) := by decide +kernel
theorem dX4_insert_156 : decode cX4_insert 156 = .ok (.dup, 1) := by decide +kernel
theorem dX4_insert_157 : decode cX4_insert 157 = .ok (.getfield 45, 3) := by decide +kernel
theorem dX4_insert_160 : decode cX4_insert 160 = .ok (.iconst 1, 1) := by decide +kernel
theorem dX4_insert_161 : decode cX4_insert 161 = .ok (.iadd, 1) := by decide +kernel
theorem dX4_insert_162 : decode cX4_insert 162 = .ok (.putfield 45, 3) := by decide +kernel
theorem dX4_insert_165 : decode cX4_insert 165 = .ok (.return_, 1) := by decide +kernel
theorem dX4_order_0 : decode cX4_order 0 = .ok (.aload_n 0, 1) := by decide +kernel
theorem dX4_order_1 : decode cX4_order 1 = .ok (.getfield 11, 3) := by decide +kernel
theorem dX4_order_4 : decode cX4_order 4 = .ok (.iload_n 1, 1) := by decide +kernel
theorem dX4_order_5 : decode cX4_order 5 = .ok (.laload, 1) := by decide +kernel
theorem dX4_order_6 : decode cX4_order 6 = .ok (.lload 6, 2) := by decide +kernel
theorem dX4_order_8 : decode cX4_order 8 = .ok (.lmul, 1) := by decide +kernel
theorem dX4_order_9 : decode cX4_order 9 = .ok (.lload_n 2, 1) := by decide +kernel
theorem dX4_order_10 : decode cX4_order 10 = .ok (.aload_n 0, 1) := by decide +kernel
theorem dX4_order_11 : decode cX4_order 11 = .ok (.getfield 18, 3) := by decide +kernel
theorem dX4_order_14 : decode cX4_order 14 = .ok (.iload_n 1, 1) := by decide +kernel
theorem dX4_order_15 : decode cX4_order 15 = .ok (.laload, 1) := by decide +kernel
theorem dX4_order_16 : decode cX4_order 16 = .ok (.lmul, 1) := by decide +kernel
theorem dX4_order_17 : decode cX4_order 17 = .ok (.invokestatic 109, 3) := by decide +kernel
theorem dX4_order_20 : decode cX4_order 20 = .ok (.istore 8, 2) := by decide +kernel
theorem dX4_order_22 : decode cX4_order 22 = .ok (.iload 8, 2) := by decide +kernel
theorem dX4_order_24 : decode cX4_order 24 = .ok (.ifCond .eq 8, 3) := by decide +kernel
theorem dX4_order_27 : decode cX4_order 27 = .ok (.iload 8, 2) := by decide +kernel
theorem dX4_order_29 : decode cX4_order 29 = .ok (.goto 24, 3) := by decide +kernel
theorem dX4_order_32 : decode cX4_order 32 = .ok (.aload_n 0, 1) := by decide +kernel
theorem dX4_order_33 : decode cX4_order 33 = .ok (.getfield 15, 3) := by decide +kernel
theorem dX4_order_36 : decode cX4_order 36 = .ok (.iload_n 1, 1) := by decide +kernel
theorem dX4_order_37 : decode cX4_order 37 = .ok (.laload, 1) := by decide +kernel
theorem dX4_order_38 : decode cX4_order 38 = .ok (.lload 6, 2) := by decide +kernel
theorem dX4_order_40 : decode cX4_order 40 = .ok (.lmul, 1) := by decide +kernel
theorem dX4_order_41 : decode cX4_order 41 = .ok (.lload 4, 2) := by decide +kernel
theorem dX4_order_43 : decode cX4_order 43 = .ok (.aload_n 0, 1) := by decide +kernel
theorem dX4_order_44 : decode cX4_order 44 = .ok (.getfield 18, 3) := by decide +kernel
theorem dX4_order_47 : decode cX4_order 47 = .ok (.iload_n 1, 1) := by decide +kernel
theorem dX4_order_48 : decode cX4_order 48 = .ok (.laload, 1) := by decide +kernel
theorem dX4_order_49 : decode cX4_order 49 = .ok (.lmul, 1) := by decide +kernel
theorem dX4_order_50 : decode cX4_order 50 = .ok (.invokestatic 109, 3) := by decide +kernel
theorem dX4_order_53 : decode cX4_order 53 = .ok (.ireturn, 1) := by decide +kernel
theorem dX4_findProof_0 : decode cX4_findProof 0 = .ok (.iconst 0, 1) := by decide +kernel
theorem dX4_findProof_1 : decode cX4_findProof 1 = .ok (.istore_n 1, 1) := by decide +kernel
theorem dX4_findProof_2 : decode cX4_findProof 2 = .ok (.iload_n 1, 1) := by decide +kernel
theorem dX4_findProof_3 : decode cX4_findProof 3 = .ok (.aload_n 0, 1) := by decide +kernel
theorem dX4_findProof_4 : decode cX4_findProof 4 = .ok (.getfield 33, 3) := by decide +kernel
theorem dX4_findProof_7 : decode cX4_findProof 7 = .ok (.getfield 59, 3) := by decide +kernel
theorem dX4_findProof_10 : decode cX4_findProof 10 = .ok (.if_icmp .ge 64, 3) := by decide +kernel
theorem dX4_findProof_13 : decode cX4_findProof 13 = .ok (.iload_n 1, 1) := by decide +kernel
theorem dX4_findProof_14 : decode cX4_findProof 14 = .ok (.iconst 1, 1) := by decide +kernel
theorem dX4_findProof_15 : decode cX4_findProof 15 = .ok (.iadd, 1) := by decide +kernel
theorem dX4_findProof_16 : decode cX4_findProof 16 = .ok (.istore_n 2, 1) := by decide +kernel
theorem dX4_findProof_17 : decode cX4_findProof 17 = .ok (.iload_n 2, 1) := by decide +kernel
theorem dX4_findProof_18 : decode cX4_findProof 18 = .ok (.aload_n 0, 1) := by decide +kernel
theorem dX4_findProof_19 : decode cX4_findProof 19 = .ok (.getfield 33, 3) := by decide +kernel
theorem dX4_findProof_22 : decode cX4_findProof 22 = .ok (.getfield 59, 3) := by decide +kernel
theorem dX4_findProof_25 : decode cX4_findProof 25 = .ok (.if_icmp .ge 43, 3) := by decide +kernel
theorem dX4_findProof_28 : decode cX4_findProof 28 = .ok (.aload_n 0, 1) := by decide +kernel
theorem dX4_findProof_29 : decode cX4_findProof 29 = .ok (.iload_n 1, 1) := by decide +kernel
theorem dX4_findProof_30 : decode cX4_findProof 30 = .ok (.iload_n 2, 1) := by decide +kernel
theorem dX4_findProof_31 : decode cX4_findProof 31 = .ok (.invokevirtual 115, 3) := by decide +kernel
theorem dX4_findProof_34 : decode cX4_findProof 34 = .ok (.istore_n 3, 1) := by decide +kernel
theorem dX4_findProof_35 : decode cX4_findProof 35 = .ok (.iload_n 3, 1) := by decide +kernel
theorem dX4_findProof_36 : decode cX4_findProof 36 = .ok (.iconst (-1), 1) := by decide +kernel
theorem dX4_findProof_37 : decode cX4_findProof 37 = .ok (.if_icmp .eq 25, 3) := by decide +kernel
theorem dX4_findProof_40 : decode cX4_findProof 40 = .ok (.aload_n 0, 1) := by decide +kernel
theorem dX4_findProof_41 : decode cX4_findProof 41 = .ok (.getfield 21, 3) := by decide +kernel
theorem dX4_findProof_44 : decode cX4_findProof 44 = .ok (.iconst 0, 1) := by decide +kernel
theorem dX4_findProof_45 : decode cX4_findProof 45 = .ok (.iload_n 1, 1) := by decide +kernel
theorem dX4_findProof_46 : decode cX4_findProof 46 = .ok (.iastore, 1) := by decide +kernel
theorem dX4_findProof_47 : decode cX4_findProof 47 = .ok (.aload_n 0, 1) := by decide +kernel
theorem dX4_findProof_48 : decode cX4_findProof 48 = .ok (.getfield 21, 3) := by decide +kernel
theorem dX4_findProof_51 : decode cX4_findProof 51 = .ok (.iconst 1, 1) := by decide +kernel
theorem dX4_findProof_52 : decode cX4_findProof 52 = .ok (.iload_n 2, 1) := by decide +kernel
theorem dX4_findProof_53 : decode cX4_findProof 53 = .ok (.iastore, 1) := by decide +kernel
theorem dX4_findProof_54 : decode cX4_findProof 54 = .ok (.aload_n 0, 1) := by decide +kernel
theorem dX4_findProof_55 : decode cX4_findProof 55 = .ok (.getfield 21, 3) := by decide +kernel
theorem dX4_findProof_58 : decode cX4_findProof 58 = .ok (.iconst 2, 1) := by decide +kernel
theorem dX4_findProof_59 : decode cX4_findProof 59 = .ok (.iload_n 3, 1) := by decide +kernel
theorem dX4_findProof_60 : decode cX4_findProof 60 = .ok (.iastore, 1) := by decide +kernel
theorem dX4_findProof_61 : decode cX4_findProof 61 = .ok (.return_, 1) := by decide +kernel
theorem dX4_findProof_62 : decode cX4_findProof 62 = .ok (.iinc 2 1, 3) := by decide +kernel
theorem dX4_findProof_65 : decode cX4_findProof 65 = .ok (.goto (-48), 3) := by decide +kernel
theorem dX4_findProof_68 : decode cX4_findProof 68 = .ok (.iinc 1 1, 3) := by decide +kernel
theorem dX4_findProof_71 : decode cX4_findProof 71 = .ok (.goto (-69), 3) := by decide +kernel
theorem dX4_findProof_74 : decode cX4_findProof 74 = .ok (.return_, 1) := by decide +kernel
theorem dX4_firstApart_0 : decode cX4_firstApart 0 = .ok (.aload_n 0, 1) := by decide +kernel
theorem dX4_firstApart_1 : decode cX4_firstApart 1 = .ok (.getfield 33, 3) := by decide +kernel
theorem dX4_firstApart_4 : decode cX4_firstApart 4 = .ok (.iload_n 1, 1) := by decide +kernel
theorem dX4_firstApart_5 : decode cX4_firstApart 5 = .ok (.iload_n 2, 1) := by decide +kernel
theorem dX4_firstApart_6 : decode cX4_firstApart 6 = .ok (.invokevirtual 73, 3) := by decide +kernel
theorem dX4_firstApart_9 : decode cX4_firstApart 9 = .ok (.lstore_n 3, 1) := by decide +kernel
theorem dX4_firstApart_10 : decode cX4_firstApart 10 = .ok (.aload_n 0, 1) := by decide +kernel
theorem dX4_firstApart_11 : decode cX4_firstApart 11 = .ok (.getfield 33, 3) := by decide +kernel
theorem dX4_firstApart_14 : decode cX4_firstApart 14 = .ok (.iload_n 1, 1) := by decide +kernel
theorem dX4_firstApart_15 : decode cX4_firstApart 15 = .ok (.iload_n 2, 1) := by decide +kernel
theorem dX4_firstApart_16 : decode cX4_firstApart 16 = .ok (.invokevirtual 77, 3) := by decide +kernel
theorem dX4_firstApart_19 : decode cX4_firstApart 19 = .ok (.lstore 5, 2) := by decide +kernel
theorem dX4_firstApart_21 : decode cX4_firstApart 21 = .ok (.aload_n 0, 1) := by decide +kernel
theorem dX4_firstApart_22 : decode cX4_firstApart 22 = .ok (.getfield 33, 3) := by decide +kernel
theorem dX4_firstApart_25 : decode cX4_firstApart 25 = .ok (.iload_n 1, 1) := by decide +kernel
theorem dX4_firstApart_26 : decode cX4_firstApart 26 = .ok (.iload_n 2, 1) := by decide +kernel
theorem dX4_firstApart_27 : decode cX4_firstApart 27 = .ok (.invokevirtual 80, 3) := by decide +kernel
theorem dX4_firstApart_30 : decode cX4_firstApart 30 = .ok (.lstore 7, 2) := by decide +kernel
theorem dX4_firstApart_32 : decode cX4_firstApart 32 = .ok (.iload_n 2, 1) := by decide +kernel
theorem dX4_firstApart_33 : decode cX4_firstApart 33 = .ok (.iconst 1, 1) := by decide +kernel
theorem dX4_firstApart_34 : decode cX4_firstApart 34 = .ok (.iadd, 1) := by decide +kernel
theorem dX4_firstApart_35 : decode cX4_firstApart 35 = .ok (.istore 9, 2) := by decide +kernel
theorem dX4_firstApart_37 : decode cX4_firstApart 37 = .ok (.iload 9, 2) := by decide +kernel
theorem dX4_firstApart_39 : decode cX4_firstApart 39 = .ok (.aload_n 0, 1) := by decide +kernel
theorem dX4_firstApart_40 : decode cX4_firstApart 40 = .ok (.getfield 33, 3) := by decide +kernel
theorem dX4_firstApart_43 : decode cX4_firstApart 43 = .ok (.getfield 59, 3) := by decide +kernel
theorem dX4_firstApart_46 : decode cX4_firstApart 46 = .ok (.if_icmp .ge 64, 3) := by decide +kernel
theorem dX4_firstApart_49 : decode cX4_firstApart 49 = .ok (.lload_n 3, 1) := by decide +kernel
theorem dX4_firstApart_50 : decode cX4_firstApart 50 = .ok (.lconst 0, 1) := by decide +kernel
theorem dX4_firstApart_51 : decode cX4_firstApart 51 = .ok (.lcmp, 1) := by decide +kernel
theorem dX4_firstApart_52 : decode cX4_firstApart 52 = .ok (.ifCond .eq 49, 3) := by decide +kernel
theorem dX4_firstApart_55 : decode cX4_firstApart 55 = .ok (.aload_n 0, 1) := by decide +kernel
theorem dX4_firstApart_56 : decode cX4_firstApart 56 = .ok (.getfield 33, 3) := by decide +kernel
theorem dX4_firstApart_59 : decode cX4_firstApart 59 = .ok (.getfield 119, 3) := by decide +kernel
theorem dX4_firstApart_62 : decode cX4_firstApart 62 = .ok (.iload 9, 2) := by decide +kernel
theorem dX4_firstApart_64 : decode cX4_firstApart 64 = .ok (.iaload, 1) := by decide +kernel
theorem dX4_firstApart_65 : decode cX4_firstApart 65 = .ok (.i2l, 1) := by decide +kernel
theorem dX4_firstApart_66 : decode cX4_firstApart 66 = .ok (.lload 5, 2) := by decide +kernel
theorem dX4_firstApart_68 : decode cX4_firstApart 68 = .ok (.lmul, 1) := by decide +kernel
theorem dX4_firstApart_69 : decode cX4_firstApart 69 = .ok (.aload_n 0, 1) := by decide +kernel
theorem dX4_firstApart_70 : decode cX4_firstApart 70 = .ok (.getfield 33, 3) := by decide +kernel
theorem dX4_firstApart_73 : decode cX4_firstApart 73 = .ok (.getfield 122, 3) := by decide +kernel
theorem dX4_firstApart_76 : decode cX4_firstApart 76 = .ok (.iload 9, 2) := by decide +kernel
theorem dX4_firstApart_78 : decode cX4_firstApart 78 = .ok (.iaload, 1) := by decide +kernel
theorem dX4_firstApart_79 : decode cX4_firstApart 79 = .ok (.i2l, 1) := by decide +kernel
theorem dX4_firstApart_80 : decode cX4_firstApart 80 = .ok (.lload 7, 2) := by decide +kernel
theorem dX4_firstApart_82 : decode cX4_firstApart 82 = .ok (.lmul, 1) := by decide +kernel
theorem dX4_firstApart_83 : decode cX4_firstApart 83 = .ok (.ladd, 1) := by decide +kernel
theorem dX4_firstApart_84 : decode cX4_firstApart 84 = .ok (.aload_n 0, 1) := by decide +kernel
theorem dX4_firstApart_85 : decode cX4_firstApart 85 = .ok (.getfield 33, 3) := by decide +kernel
theorem dX4_firstApart_88 : decode cX4_firstApart 88 = .ok (.getfield 125, 3) := by decide +kernel
theorem dX4_firstApart_91 : decode cX4_firstApart 91 = .ok (.iload 9, 2) := by decide +kernel
theorem dX4_firstApart_93 : decode cX4_firstApart 93 = .ok (.iaload, 1) := by decide +kernel
theorem dX4_firstApart_94 : decode cX4_firstApart 94 = .ok (.i2l, 1) := by decide +kernel
theorem dX4_firstApart_95 : decode cX4_firstApart 95 = .ok (.lload_n 3, 1) := by decide +kernel
theorem dX4_firstApart_96 : decode cX4_firstApart 96 = .ok (.lmul, 1) := by decide +kernel
theorem dX4_firstApart_97 : decode cX4_firstApart 97 = .ok (.lcmp, 1) := by decide +kernel
theorem dX4_firstApart_98 : decode cX4_firstApart 98 = .ok (.ifCond .eq 6, 3) := by decide +kernel
theorem dX4_firstApart_101 : decode cX4_firstApart 101 = .ok (.iload 9, 2) := by decide +kernel
theorem dX4_firstApart_103 : decode cX4_firstApart 103 = .ok (.ireturn, 1) := by decide +kernel
theorem dX4_firstApart_104 : decode cX4_firstApart 104 = .ok (.iinc 9 1, 3) := by decide +kernel
theorem dX4_firstApart_107 : decode cX4_firstApart 107 = .ok (.goto (-70), 3) := by decide +kernel
theorem dX4_firstApart_110 : decode cX4_firstApart 110 = .ok (.iconst (-1), 1) := by decide +kernel
theorem dX4_firstApart_111 : decode cX4_firstApart 111 = .ok (.ireturn, 1) := by decide +kernel
theorem dX5_init_0 : decode cX5_init 0 = .ok (.aload_n 0, 1) := by decide +kernel
theorem dX5_init_1 : decode cX5_init 1 = .ok (.invokespecial 3, 3) := by decide +kernel
theorem dX5_init_4 : decode cX5_init 4 = .ok (.aload_n 0, 1) := by decide +kernel
theorem dX5_init_5 : decode cX5_init 5 = .ok (.sipush 360, 3) := by decide +kernel
theorem dX5_init_8 : decode cX5_init 8 = .ok (.newarray .int, 2) := by decide +kernel
theorem dX5_init_10 : decode cX5_init 10 = .ok (.putfield 11, 3) := by decide +kernel
theorem dX5_init_13 : decode cX5_init 13 = .ok (.return_, 1) := by decide +kernel
theorem dX5_open_0 : decode cX5_open 0 = .ok (.aload_n 0, 1) := by decide +kernel
theorem dX5_open_1 : decode cX5_open 1 = .ok (.getfield 15, 3) := by decide +kernel
theorem dX5_open_4 : decode cX5_open 4 = .ok (.bipush 40, 2) := by decide +kernel
theorem dX5_open_6 : decode cX5_open 6 = .ok (.if_icmp .lt 4, 3) := by decide +kernel
theorem dX5_open_9 : decode cX5_open 9 = .ok (.return_, 1) := by decide +kernel
theorem dX5_open_10 : decode cX5_open 10 = .ok (.aload_n 0, 1) := by decide +kernel
theorem dX5_open_11 : decode cX5_open 11 = .ok (.iconst 0, 1) := by decide +kernel
theorem dX5_open_12 : decode cX5_open 12 = .ok (.iload_n 1, 1) := by decide +kernel
theorem dX5_open_13 : decode cX5_open 13 = .ok (.invokevirtual 19, 3) := by decide +kernel
theorem dX5_open_16 : decode cX5_open 16 = .ok (.aload_n 0, 1) := by decide +kernel
theorem dX5_open_17 : decode cX5_open 17 = .ok (.iconst 1, 1) := by decide +kernel
theorem dX5_open_18 : decode cX5_open 18 = .ok (.iload_n 2, 1) := by decide +kernel
theorem dX5_open_19 : decode cX5_open 19 = .ok (.invokevirtual 19, 3) := by decide +kernel
theorem dX5_open_22 : decode cX5_open 22 = .ok (.aload_n 0, 1) := by decide +kernel
theorem dX5_open_23 : decode cX5_open 23 = .ok (.iconst 2, 1) := by decide +kernel
theorem dX5_open_24 : decode cX5_open 24 = .ok (.iload_n 3, 1) := by decide +kernel
theorem dX5_open_25 : decode cX5_open 25 = .ok (.invokevirtual 19, 3) := by decide +kernel
theorem dX5_open_28 : decode cX5_open 28 = .ok (.aload_n 0, 1) := by decide +kernel
theorem dX5_open_29 : decode cX5_open 29 = .ok (.iconst 5, 1) := by decide +kernel
theorem dX5_open_30 : decode cX5_open 30 = .ok (.iload 4, 2) := by decide +kernel
theorem dX5_open_32 : decode cX5_open 32 = .ok (.invokevirtual 19, 3) := by decide +kernel
theorem dX5_open_35 : decode cX5_open 35 = .ok (.aload_n 0, 1) := by decide +kernel
theorem dX5_open_36 : decode cX5_open 36 = .ok (.bipush 7, 2) := by decide +kernel
theorem dX5_open_38 : decode cX5_open 38 = .ok (.iload 5, 2) := by decide +kernel
theorem dX5_open_40 : decode cX5_open 40 = .ok (.invokevirtual 19, 3) := by decide +kernel
theorem dX5_open_43 : decode cX5_open 43 = .ok (.return_, 1) := by decide +kernel
theorem dX5_close_0 : decode cX5_close 0 = .ok (.aload_n 0, 1) := by decide +kernel
theorem dX5_close_1 : decode cX5_close 1 = .ok (.getfield 15, 3) := by decide +kernel
theorem dX5_close_4 : decode cX5_close 4 = .ok (.bipush 40, 2) := by decide +kernel
theorem dX5_close_6 : decode cX5_close 6 = .ok (.if_icmp .lt 4, 3) := by decide +kernel
theorem dX5_close_9 : decode cX5_close 9 = .ok (.return_, 1) := by decide +kernel
theorem dX5_close_10 : decode cX5_close 10 = .ok (.aload_n 0, 1) := by decide +kernel
theorem dX5_close_11 : decode cX5_close 11 = .ok (.iconst 3, 1) := by decide +kernel
theorem dX5_close_12 : decode cX5_close 12 = .ok (.iload_n 1, 1) := by decide +kernel
theorem dX5_close_13 : decode cX5_close 13 = .ok (.invokevirtual 19, 3) := by decide +kernel
theorem dX5_close_16 : decode cX5_close 16 = .ok (.aload_n 0, 1) := by decide +kernel
theorem dX5_close_17 : decode cX5_close 17 = .ok (.iconst 4, 1) := by decide +kernel
theorem dX5_close_18 : decode cX5_close 18 = .ok (.iload_n 2, 1) := by decide +kernel
theorem dX5_close_19 : decode cX5_close 19 = .ok (.invokevirtual 19, 3) := by decide +kernel
theorem dX5_close_22 : decode cX5_close 22 = .ok (.aload_n 0, 1) := by decide +kernel
theorem dX5_close_23 : decode cX5_close 23 = .ok (.bipush 6, 2) := by decide +kernel
theorem dX5_close_25 : decode cX5_close 25 = .ok (.iload_n 3, 1) := by decide +kernel
theorem dX5_close_26 : decode cX5_close 26 = .ok (.invokevirtual 19, 3) := by decide +kernel
theorem dX5_close_29 : decode cX5_close 29 = .ok (.aload_n 0, 1) := by decide +kernel
theorem dX5_close_30 : decode cX5_close 30 = .ok (.bipush 8, 2) := by decide +kernel
theorem dX5_close_32 : decode cX5_close 32 = .ok (.iload 4, 2) := by decide +kernel
theorem dX5_close_34 : decode cX5_close 34 = .ok (.invokevirtual 19, 3) := by decide +kernel
theorem dX5_close_37 : decode cX5_close 37 = .ok (.aload_n 0, 1) := by decide +kernel
theorem dX5_close_38 : decode cX5_close 38 = .ok (.dup, 1) := by decide +kernel
theorem dX5_close_39 : decode cX5_close 39 = .ok (.getfield 15, 3) := by decide +kernel
theorem dX5_close_42 : decode cX5_close 42 = .ok (.iconst 1, 1) := by decide +kernel
theorem dX5_close_43 : decode cX5_close 43 = .ok (.iadd, 1) := by decide +kernel
theorem dX5_close_44 : decode cX5_close 44 = .ok (.putfield 15, 3) := by decide +kernel
theorem dX5_close_47 : decode cX5_close 47 = .ok (.return_, 1) := by decide +kernel
theorem dX5_set_0 : decode cX5_set 0 = .ok (.aload_n 0, 1) := by decide +kernel
theorem dX5_set_1 : decode cX5_set 1 = .ok (.getfield 11, 3) := by decide +kernel
theorem dX5_set_4 : decode cX5_set 4 = .ok (.aload_n 0, 1) := by decide +kernel
theorem dX5_set_5 : decode cX5_set 5 = .ok (.getfield 15, 3) := by decide +kernel
theorem dX5_set_8 : decode cX5_set 8 = .ok (.bipush 9, 2) := by decide +kernel
theorem dX5_set_10 : decode cX5_set 10 = .ok (.imul, 1) := by decide +kernel
theorem dX5_set_11 : decode cX5_set 11 = .ok (.iload_n 1, 1) := by decide +kernel
theorem dX5_set_12 : decode cX5_set 12 = .ok (.iadd, 1) := by decide +kernel
theorem dX5_set_13 : decode cX5_set 13 = .ok (.iload_n 2, 1) := by decide +kernel
theorem dX5_set_14 : decode cX5_set 14 = .ok (.iastore, 1) := by decide +kernel
theorem dX5_set_15 : decode cX5_set 15 = .ok (.return_, 1) := by decide +kernel
theorem dX5_get_0 : decode cX5_get 0 = .ok (.aload_n 0, 1) := by decide +kernel
theorem dX5_get_1 : decode cX5_get 1 = .ok (.getfield 11, 3) := by decide +kernel
theorem dX5_get_4 : decode cX5_get 4 = .ok (.iload_n 1, 1) := by decide +kernel
theorem dX5_get_5 : decode cX5_get 5 = .ok (.bipush 9, 2) := by decide +kernel
theorem dX5_get_7 : decode cX5_get 7 = .ok (.imul, 1) := by decide +kernel
theorem dX5_get_8 : decode cX5_get 8 = .ok (.iload_n 2, 1) := by decide +kernel
theorem dX5_get_9 : decode cX5_get 9 = .ok (.iadd, 1) := by decide +kernel
theorem dX5_get_10 : decode cX5_get 10 = .ok (.iaload, 1) := by decide +kernel
theorem dX5_get_11 : decode cX5_get 11 = .ok (.ireturn, 1) := by decide +kernel
