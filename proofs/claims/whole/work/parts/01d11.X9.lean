theorem dX9_layFar_319 : decode cX9_layFar 319 = .ok (.getfield 69, 3) := by decide +kernel
theorem dX9_layFar_322 : decode cX9_layFar 322 = .ok (.bipush 26, 2) := by decide +kernel
theorem dX9_layFar_324 : decode cX9_layFar 324 = .ok (.iload_n 2, 1) := by decide +kernel
theorem dX9_layFar_325 : decode cX9_layFar 325 = .ok (.iadd, 1) := by decide +kernel
theorem dX9_layFar_326 : decode cX9_layFar 326 = .ok (.iaload, 1) := by decide +kernel
theorem dX9_layFar_327 : decode cX9_layFar 327 = .ok (.if_icmp .ge 7, 3) := by decide +kernel
theorem dX9_layFar_330 : decode cX9_layFar 330 = .ok (.iload_n 3, 1) := by decide +kernel
theorem dX9_layFar_331 : decode cX9_layFar 331 = .ok (.goto 4, 3) := by decide +kernel
theorem dX9_layFar_334 : decode cX9_layFar 334 = .ok (.iload_n 2, 1) := by decide +kernel
theorem dX9_layFar_335 : decode cX9_layFar 335 = .ok (.istore_n 2, 1) := by decide +kernel
theorem dX9_layFar_336 : decode cX9_layFar 336 = .ok (.iinc 3 1, 3) := by decide +kernel
theorem dX9_layFar_339 : decode cX9_layFar 339 = .ok (.goto (-67), 3) := by decide +kernel
theorem dX9_layFar_342 : decode cX9_layFar 342 = .ok (.iload_n 2, 1) := by decide +kernel
theorem dX9_layFar_343 : decode cX9_layFar 343 = .ok (.ireturn, 1) := by decide +kernel
theorem dX9_carryOne_0 : decode cX9_carryOne 0 = .ok (.bipush 26, 2) := by decide +kernel
theorem dX9_carryOne_2 : decode cX9_carryOne 2 = .ok (.iload_n 1, 1) := by decide +kernel
theorem dX9_carryOne_3 : decode cX9_carryOne 3 = .ok (.iadd, 1) := by decide +kernel
theorem dX9_carryOne_4 : decode cX9_carryOne 4 = .ok (.istore_n 2, 1) := by decide +kernel
theorem dX9_carryOne_5 : decode cX9_carryOne 5 = .ok (.aload_n 0, 1) := by decide +kernel
theorem dX9_carryOne_6 : decode cX9_carryOne 6 = .ok (.getfield 63, 3) := by decide +kernel
theorem dX9_carryOne_9 : decode cX9_carryOne 9 = .ok (.iload_n 1, 1) := by decide +kernel
theorem dX9_carryOne_10 : decode cX9_carryOne 10 = .ok (.dup2, 1) := by decide +kernel
theorem dX9_carryOne_11 : decode cX9_carryOne 11 = .ok (.iaload, 1) := by decide +kernel
theorem dX9_carryOne_12 : decode cX9_carryOne 12 = .ok (.iconst 1, 1) := by decide +kernel
theorem dX9_carryOne_13 : decode cX9_carryOne 13 = .ok (.isub, 1) := by decide +kernel
theorem dX9_carryOne_14 : decode cX9_carryOne 14 = .ok (.iastore, 1) := by decide +kernel
theorem dX9_carryOne_15 : decode cX9_carryOne 15 = .ok (.aload_n 0, 1) := by decide +kernel
theorem dX9_carryOne_16 : decode cX9_carryOne 16 = .ok (.getfield 72, 3) := by decide +kernel
theorem dX9_carryOne_19 : decode cX9_carryOne 19 = .ok (.iload_n 2, 1) := by decide +kernel
theorem dX9_carryOne_20 : decode cX9_carryOne 20 = .ok (.iaload, 1) := by decide +kernel
theorem dX9_carryOne_21 : decode cX9_carryOne 21 = .ok (.ifCond .eq 64, 3) := by decide +kernel
theorem dX9_carryOne_24 : decode cX9_carryOne 24 = .ok (.aload_n 0, 1) := by decide +kernel
theorem dX9_carryOne_25 : decode cX9_carryOne 25 = .ok (.getfield 72, 3) := by decide +kernel
theorem dX9_carryOne_28 : decode cX9_carryOne 28 = .ok (.iload_n 2, 1) := by decide +kernel
theorem dX9_carryOne_29 : decode cX9_carryOne 29 = .ok (.iaload, 1) := by decide +kernel
theorem dX9_carryOne_30 : decode cX9_carryOne 30 = .ok (.istore_n 3, 1) := by decide +kernel
theorem dX9_carryOne_31 : decode cX9_carryOne 31 = .ok (.iload_n 2, 1) := by decide +kernel
theorem dX9_carryOne_32 : decode cX9_carryOne 32 = .ok (.bipush 25, 2) := by decide +kernel
theorem dX9_carryOne_34 : decode cX9_carryOne 34 = .ok (.if_icmp .le 26, 3) := by decide +kernel
theorem dX9_carryOne_37 : decode cX9_carryOne 37 = .ok (.aload_n 0, 1) := by decide +kernel
theorem dX9_carryOne_38 : decode cX9_carryOne 38 = .ok (.getfield 66, 3) := by decide +kernel
theorem dX9_carryOne_41 : decode cX9_carryOne 41 = .ok (.bipush 25, 2) := by decide +kernel
theorem dX9_carryOne_43 : decode cX9_carryOne 43 = .ok (.iload_n 3, 1) := by decide +kernel
theorem dX9_carryOne_44 : decode cX9_carryOne 44 = .ok (.iconst 1, 1) := by decide +kernel
theorem dX9_carryOne_45 : decode cX9_carryOne 45 = .ok (.isub, 1) := by decide +kernel
theorem dX9_carryOne_46 : decode cX9_carryOne 46 = .ok (.imul, 1) := by decide +kernel
theorem dX9_carryOne_47 : decode cX9_carryOne 47 = .ok (.iload_n 2, 1) := by decide +kernel
theorem dX9_carryOne_48 : decode cX9_carryOne 48 = .ok (.iadd, 1) := by decide +kernel
theorem dX9_carryOne_49 : decode cX9_carryOne 49 = .ok (.bipush 26, 2) := by decide +kernel
theorem dX9_carryOne_51 : decode cX9_carryOne 51 = .ok (.isub, 1) := by decide +kernel
theorem dX9_carryOne_52 : decode cX9_carryOne 52 = .ok (.dup2, 1) := by decide +kernel
theorem dX9_carryOne_53 : decode cX9_carryOne 53 = .ok (.iaload, 1) := by decide +kernel
theorem dX9_carryOne_54 : decode cX9_carryOne 54 = .ok (.iconst 1, 1) := by decide +kernel
theorem dX9_carryOne_55 : decode cX9_carryOne 55 = .ok (.iadd, 1) := by decide +kernel
theorem dX9_carryOne_56 : decode cX9_carryOne 56 = .ok (.iastore, 1) := by decide +kernel
theorem dX9_carryOne_57 : decode cX9_carryOne 57 = .ok (.goto 23, 3) := by decide +kernel
theorem dX9_carryOne_60 : decode cX9_carryOne 60 = .ok (.aload_n 0, 1) := by decide +kernel
theorem dX9_carryOne_61 : decode cX9_carryOne 61 = .ok (.getfield 66, 3) := by decide +kernel
theorem dX9_carryOne_64 : decode cX9_carryOne 64 = .ok (.bipush 25, 2) := by decide +kernel
theorem dX9_carryOne_66 : decode cX9_carryOne 66 = .ok (.iload_n 2, 1) := by decide +kernel
theorem dX9_carryOne_67 : decode cX9_carryOne 67 = .ok (.iconst 1, 1) := by decide +kernel
theorem dX9_carryOne_68 : decode cX9_carryOne 68 = .ok (.isub, 1) := by decide +kernel
theorem dX9_carryOne_69 : decode cX9_carryOne 69 = .ok (.imul, 1) := by decide +kernel
theorem dX9_carryOne_70 : decode cX9_carryOne 70 = .ok (.iload_n 3, 1) := by decide +kernel
theorem dX9_carryOne_71 : decode cX9_carryOne 71 = .ok (.iadd, 1) := by decide +kernel
theorem dX9_carryOne_72 : decode cX9_carryOne 72 = .ok (.bipush 26, 2) := by decide +kernel
theorem dX9_carryOne_74 : decode cX9_carryOne 74 = .ok (.isub, 1) := by decide +kernel
theorem dX9_carryOne_75 : decode cX9_carryOne 75 = .ok (.dup2, 1) := by decide +kernel
theorem dX9_carryOne_76 : decode cX9_carryOne 76 = .ok (.iaload, 1) := by decide +kernel
theorem dX9_carryOne_77 : decode cX9_carryOne 77 = .ok (.iconst 1, 1) := by decide +kernel
theorem dX9_carryOne_78 : decode cX9_carryOne 78 = .ok (.isub, 1) := by decide +kernel
theorem dX9_carryOne_79 : decode cX9_carryOne 79 = .ok (.iastore, 1) := by decide +kernel
theorem dX9_carryOne_80 : decode cX9_carryOne 80 = .ok (.iload_n 3, 1) := by decide +kernel
theorem dX9_carryOne_81 : decode cX9_carryOne 81 = .ok (.istore_n 2, 1) := by decide +kernel
theorem dX9_carryOne_82 : decode cX9_carryOne 82 = .ok (.goto (-67), 3) := by decide +kernel
theorem dX9_carryOne_85 : decode cX9_carryOne 85 = .ok (.aload_n 0, 1) := by decide +kernel
theorem dX9_carryOne_86 : decode cX9_carryOne 86 = .ok (.getfield 60, 3) := by decide +kernel
theorem dX9_carryOne_89 : decode cX9_carryOne 89 = .ok (.iload_n 2, 1) := by decide +kernel
theorem dX9_carryOne_90 : decode cX9_carryOne 90 = .ok (.iconst 1, 1) := by decide +kernel
theorem dX9_carryOne_91 : decode cX9_carryOne 91 = .ok (.isub, 1) := by decide +kernel
theorem dX9_carryOne_92 : decode cX9_carryOne 92 = .ok (.dup2, 1) := by decide +kernel
theorem dX9_carryOne_93 : decode cX9_carryOne 93 = .ok (.iaload, 1) := by decide +kernel
theorem dX9_carryOne_94 : decode cX9_carryOne 94 = .ok (.iconst 1, 1) := by decide +kernel
theorem dX9_carryOne_95 : decode cX9_carryOne 95 = .ok (.isub, 1) := by decide +kernel
theorem dX9_carryOne_96 : decode cX9_carryOne 96 = .ok (.iastore, 1) := by decide +kernel
theorem dX9_carryOne_97 : decode cX9_carryOne 97 = .ok (.return_, 1) := by decide +kernel
set_option maxRecDepth 20000 in
theorem ggX9_carry_X9_isSlot : GoodIn wsX9_carry wsX9_isSlot := goodIn_r _ [9, 10, 11, 12, 8, 13] (by decide +kernel) (by decide +kernel)
set_option maxRecDepth 20000 in
theorem gX9_carry_X9_isSlot : GoodIn wsX9_carry (va_wsS RX9 103 yX9_isSlot wsX9_isSlot) := goodIn_app (goodIn_of _ (by decide +kernel)) ggX9_carry_X9_isSlot
set_option maxRecDepth 20000 in
theorem ggX9_carry_X9_cubesOf : GoodIn wsX9_carry wsX9_cubesOf := goodIn_r _ [17, 1, 18, 19, 20, 8, 21, 22, 23, 38, 39, 40, 41, 42, 43, 44, 45, 46, 47, 48, 49, 50, 51, 52, 53, 54, 55, 56, 57, 58, 59, 60, 61, 62, 63] (by decide +kernel) (by decide +kernel)
set_option maxRecDepth 20000 in
theorem gX9_carry_X9_cubesOf : GoodIn wsX9_carry (wsV RX9 112 RX9 yX9_cubesOf wsX9_cubesOf) := goodIn_app (goodIn_of _ (by decide +kernel)) ggX9_carry_X9_cubesOf
set_option maxRecDepth 20000 in
theorem ggX9_carry_X9_cells : GoodIn wsX9_carry wsX9_cells := goodIn_r _ [21, 22, 23, 38, 39, 40, 41, 42, 43, 44, 45, 46, 47, 48, 49, 50, 51, 52, 53, 54, 55, 56, 57, 58, 59, 60, 61, 62, 63] (by decide +kernel) (by decide +kernel)
set_option maxRecDepth 20000 in
theorem gX9_carry_X9_cells : GoodIn wsX9_carry (wsV RX9 97 RX9 yX9_cells wsX9_cells) := goodIn_app (goodIn_of _ (by decide +kernel)) ggX9_carry_X9_cells
set_option maxRecDepth 20000 in
theorem ggX9_carry_X9_layFar : GoodIn wsX9_carry wsX9_layFar := goodIn_r _ [27, 5, 28, 2, 29, 4, 3, 18, 19, 20, 8, 21, 22, 23, 30, 31, 32, 33, 38, 39, 40, 41, 42, 43, 44, 45, 46, 47, 48, 49, 50, 51, 52, 53, 54, 55, 56, 57, 58, 59, 60, 61, 62, 63] (by decide +kernel) (by decide +kernel)
set_option maxRecDepth 20000 in
theorem gX9_carry_X9_layFar : GoodIn wsX9_carry (wsV RX9 192 RX9 yX9_layFar wsX9_layFar) := goodIn_app (goodIn_of _ (by decide +kernel)) ggX9_carry_X9_layFar
set_option maxRecDepth 20000 in
theorem ggX9_carry_X9_carryOne : GoodIn wsX9_carry wsX9_carryOne := goodIn_r _ [37, 3, 29, 4, 2, 38, 39, 40, 41, 42, 43, 44, 45, 46, 47, 48, 49, 50, 51, 52, 53, 54, 55, 56, 57, 58, 59, 60, 61, 62, 63] (by decide +kernel) (by decide +kernel)
set_option maxRecDepth 20000 in
theorem gX9_carry_X9_carryOne : GoodIn wsX9_carry (wsV RX9 195 RX9 yX9_carryOne wsX9_carryOne) := goodIn_app (goodIn_of _ (by decide +kernel)) ggX9_carry_X9_carryOne
theorem dX9_carry_0 : decode cX9_carry 0 = .ok (.iload_n 1, 1) := by decide +kernel
theorem dX9_carry_1 : decode cX9_carry 1 = .ok (.invokestatic 103, 3) := by decide +kernel
theorem dX9_carry_4 : decode cX9_carry 4 = .ok (.ifCond .eq 10, 3) := by decide +kernel
theorem dX9_carry_7 : decode cX9_carry 7 = .ok (.iload_n 2, 1) := by decide +kernel
theorem dX9_carry_8 : decode cX9_carry 8 = .ok (.invokestatic 103, 3) := by decide +kernel
theorem dX9_carry_11 : decode cX9_carry 11 = .ok (.ifCond .ne 5, 3) := by decide +kernel
theorem dX9_carry_14 : decode cX9_carry 14 = .ok (.iconst (-1), 1) := by decide +kernel
theorem dX9_carry_15 : decode cX9_carry 15 = .ok (.ireturn, 1) := by decide +kernel
theorem dX9_carry_16 : decode cX9_carry 16 = .ok (.aload_n 0, 1) := by decide +kernel
theorem dX9_carry_17 : decode cX9_carry 17 = .ok (.iload_n 1, 1) := by decide +kernel
theorem dX9_carry_18 : decode cX9_carry 18 = .ok (.invokevirtual 112, 3) := by decide +kernel
theorem dX9_carry_21 : decode cX9_carry 21 = .ok (.aload_n 0, 1) := by decide +kernel
theorem dX9_carry_22 : decode cX9_carry 22 = .ok (.iload_n 2, 1) := by decide +kernel
theorem dX9_carry_23 : decode cX9_carry 23 = .ok (.invokevirtual 112, 3) := by decide +kernel
theorem dX9_carry_26 : decode cX9_carry 26 = .ok (.if_icmp .eq 6, 3) := by decide +kernel
theorem dX9_carry_29 : decode cX9_carry 29 = .ok (.bipush (-9), 2) := by decide +kernel
theorem dX9_carry_31 : decode cX9_carry 31 = .ok (.ireturn, 1) := by decide +kernel
theorem dX9_carry_32 : decode cX9_carry 32 = .ok (.iconst 0, 1) := by decide +kernel
theorem dX9_carry_33 : decode cX9_carry 33 = .ok (.istore_n 3, 1) := by decide +kernel
theorem dX9_carry_34 : decode cX9_carry 34 = .ok (.iload_n 3, 1) := by decide +kernel
theorem dX9_carry_35 : decode cX9_carry 35 = .ok (.bipush 25, 2) := by decide +kernel
theorem dX9_carry_37 : decode cX9_carry 37 = .ok (.if_icmp .ge 81, 3) := by decide +kernel
theorem dX9_carry_40 : decode cX9_carry 40 = .ok (.iload_n 3, 1) := by decide +kernel
theorem dX9_carry_41 : decode cX9_carry 41 = .ok (.aload_n 0, 1) := by decide +kernel
theorem dX9_carry_42 : decode cX9_carry 42 = .ok (.invokevirtual 97, 3) := by decide +kernel
theorem dX9_carry_45 : decode cX9_carry 45 = .ok (.if_icmp .ge 29, 3) := by decide +kernel
theorem dX9_carry_48 : decode cX9_carry 48 = .ok (.aload_n 0, 1) := by decide +kernel
theorem dX9_carry_49 : decode cX9_carry 49 = .ok (.getfield 7, 3) := by decide +kernel
theorem dX9_carry_52 : decode cX9_carry 52 = .ok (.bipush 25, 2) := by decide +kernel
theorem dX9_carry_54 : decode cX9_carry 54 = .ok (.iload_n 1, 1) := by decide +kernel
theorem dX9_carry_55 : decode cX9_carry 55 = .ok (.imul, 1) := by decide +kernel
theorem dX9_carry_56 : decode cX9_carry 56 = .ok (.iload_n 3, 1) := by decide +kernel
theorem dX9_carry_57 : decode cX9_carry 57 = .ok (.iadd, 1) := by decide +kernel
theorem dX9_carry_58 : decode cX9_carry 58 = .ok (.iaload, 1) := by decide +kernel
theorem dX9_carry_59 : decode cX9_carry 59 = .ok (.aload_n 0, 1) := by decide +kernel
theorem dX9_carry_60 : decode cX9_carry 60 = .ok (.getfield 7, 3) := by decide +kernel
theorem dX9_carry_63 : decode cX9_carry 63 = .ok (.bipush 25, 2) := by decide +kernel
theorem dX9_carry_65 : decode cX9_carry 65 = .ok (.iload_n 2, 1) := by decide +kernel
theorem dX9_carry_66 : decode cX9_carry 66 = .ok (.imul, 1) := by decide +kernel
theorem dX9_carry_67 : decode cX9_carry 67 = .ok (.iload_n 3, 1) := by decide +kernel
theorem dX9_carry_68 : decode cX9_carry 68 = .ok (.iadd, 1) := by decide +kernel
theorem dX9_carry_69 : decode cX9_carry 69 = .ok (.iaload, 1) := by decide +kernel
theorem dX9_carry_70 : decode cX9_carry 70 = .ok (.isub, 1) := by decide +kernel
theorem dX9_carry_71 : decode cX9_carry 71 = .ok (.goto 4, 3) := by decide +kernel
theorem dX9_carry_74 : decode cX9_carry 74 = .ok (.iconst 0, 1) := by decide +kernel
theorem dX9_carry_75 : decode cX9_carry 75 = .ok (.istore 4, 2) := by decide +kernel
theorem dX9_carry_77 : decode cX9_carry 77 = .ok (.aload_n 0, 1) := by decide +kernel
theorem dX9_carry_78 : decode cX9_carry 78 = .ok (.getfield 60, 3) := by decide +kernel
theorem dX9_carry_81 : decode cX9_carry 81 = .ok (.iload_n 3, 1) := by decide +kernel
theorem dX9_carry_82 : decode cX9_carry 82 = .ok (.iload 4, 2) := by decide +kernel
theorem dX9_carry_84 : decode cX9_carry 84 = .ok (.ifCond .le 8, 3) := by decide +kernel
theorem dX9_carry_87 : decode cX9_carry 87 = .ok (.iload 4, 2) := by decide +kernel
theorem dX9_carry_89 : decode cX9_carry 89 = .ok (.goto 4, 3) := by decide +kernel
theorem dX9_carry_92 : decode cX9_carry 92 = .ok (.iconst 0, 1) := by decide +kernel
theorem dX9_carry_93 : decode cX9_carry 93 = .ok (.iastore, 1) := by decide +kernel
theorem dX9_carry_94 : decode cX9_carry 94 = .ok (.aload_n 0, 1) := by decide +kernel
theorem dX9_carry_95 : decode cX9_carry 95 = .ok (.getfield 63, 3) := by decide +kernel
theorem dX9_carry_98 : decode cX9_carry 98 = .ok (.iload_n 3, 1) := by decide +kernel
theorem dX9_carry_99 : decode cX9_carry 99 = .ok (.iload 4, 2) := by decide +kernel
theorem dX9_carry_101 : decode cX9_carry 101 = .ok (.ifCond .ge 9, 3) := by decide +kernel
theorem dX9_carry_104 : decode cX9_carry 104 = .ok (.iload 4, 2) := by decide +kernel
theorem dX9_carry_106 : decode cX9_carry 106 = .ok (.ineg, 1) := by decide +kernel
theorem dX9_carry_107 : decode cX9_carry 107 = .ok (.goto 4, 3) := by decide +kernel
theorem dX9_carry_110 : decode cX9_carry 110 = .ok (.iconst 0, 1) := by decide +kernel
theorem dX9_carry_111 : decode cX9_carry 111 = .ok (.iastore, 1) := by decide +kernel
theorem dX9_carry_112 : decode cX9_carry 112 = .ok (.iinc 3 1, 3) := by decide +kernel
theorem dX9_carry_115 : decode cX9_carry 115 = .ok (.goto (-81), 3) := by decide +kernel
theorem dX9_carry_118 : decode cX9_carry 118 = .ok (.iconst 0, 1) := by decide +kernel
theorem dX9_carry_119 : decode cX9_carry 119 = .ok (.istore_n 3, 1) := by decide +kernel
theorem dX9_carry_120 : decode cX9_carry 120 = .ok (.iload_n 3, 1) := by decide +kernel
theorem dX9_carry_121 : decode cX9_carry 121 = .ok (.sipush 625, 3) := by decide +kernel
theorem dX9_carry_124 : decode cX9_carry 124 = .ok (.if_icmp .ge 16, 3) := by decide +kernel
theorem dX9_carry_127 : decode cX9_carry 127 = .ok (.aload_n 0, 1) := by decide +kernel
theorem dX9_carry_128 : decode cX9_carry 128 = .ok (.getfield 66, 3) := by decide +kernel
theorem dX9_carry_131 : decode cX9_carry 131 = .ok (.iload_n 3, 1) := by decide +kernel
theorem dX9_carry_132 : decode cX9_carry 132 = .ok (.iconst 0, 1) := by decide +kernel
theorem dX9_carry_133 : decode cX9_carry 133 = .ok (.iastore, 1) := by decide +kernel
theorem dX9_carry_134 : decode cX9_carry 134 = .ok (.iinc 3 1, 3) := by decide +kernel
theorem dX9_carry_137 : decode cX9_carry 137 = .ok (.goto (-17), 3) := by decide +kernel
theorem dX9_carry_140 : decode cX9_carry 140 = .ok (.iconst 0, 1) := by decide +kernel
theorem dX9_carry_141 : decode cX9_carry 141 = .ok (.istore_n 3, 1) := by decide +kernel
theorem dX9_carry_142 : decode cX9_carry 142 = .ok (.aload_n 0, 1) := by decide +kernel
theorem dX9_carry_143 : decode cX9_carry 143 = .ok (.invokevirtual 192, 3) := by decide +kernel
theorem dX9_carry_146 : decode cX9_carry 146 = .ok (.istore 4, 2) := by decide +kernel
theorem dX9_carry_148 : decode cX9_carry 148 = .ok (.iload 4, 2) := by decide +kernel
theorem dX9_carry_150 : decode cX9_carry 150 = .ok (.bipush (-9), 2) := by decide +kernel
theorem dX9_carry_152 : decode cX9_carry 152 = .ok (.if_icmp .eq 31, 3) := by decide +kernel
theorem dX9_carry_155 : decode cX9_carry 155 = .ok (.iload_n 3, 1) := by decide +kernel
theorem dX9_carry_156 : decode cX9_carry 156 = .ok (.aload_n 0, 1) := by decide +kernel
theorem dX9_carry_157 : decode cX9_carry 157 = .ok (.getfield 69, 3) := by decide +kernel
theorem dX9_carry_160 : decode cX9_carry 160 = .ok (.bipush 26, 2) := by decide +kernel
theorem dX9_carry_162 : decode cX9_carry 162 = .ok (.iload 4, 2) := by decide +kernel
theorem dX9_carry_164 : decode cX9_carry 164 = .ok (.iadd, 1) := by decide +kernel
theorem dX9_carry_165 : decode cX9_carry 165 = .ok (.iaload, 1) := by decide +kernel
theorem dX9_carry_166 : decode cX9_carry 166 = .ok (.iadd, 1) := by decide +kernel
theorem dX9_carry_167 : decode cX9_carry 167 = .ok (.istore_n 3, 1) := by decide +kernel
theorem dX9_carry_168 : decode cX9_carry 168 = .ok (.aload_n 0, 1) := by decide +kernel
theorem dX9_carry_169 : decode cX9_carry 169 = .ok (.iload 4, 2) := by decide +kernel
theorem dX9_carry_171 : decode cX9_carry 171 = .ok (.invokevirtual 195, 3) := by decide +kernel
theorem dX9_carry_174 : decode cX9_carry 174 = .ok (.aload_n 0, 1) := by decide +kernel
theorem dX9_carry_175 : decode cX9_carry 175 = .ok (.invokevirtual 192, 3) := by decide +kernel
theorem dX9_carry_178 : decode cX9_carry 178 = .ok (.istore 4, 2) := by decide +kernel
theorem dX9_carry_180 : decode cX9_carry 180 = .ok (.goto (-32), 3) := by decide +kernel
theorem dX9_carry_183 : decode cX9_carry 183 = .ok (.iload_n 3, 1) := by decide +kernel
theorem dX9_carry_184 : decode cX9_carry 184 = .ok (.ireturn, 1) := by decide +kernel
theorem dX9_mayTurn_0 : decode cX9_mayTurn 0 = .ok (.iload_n 1, 1) := by decide +kernel
theorem dX9_mayTurn_1 : decode cX9_mayTurn 1 = .ok (.iconst 2, 1) := by decide +kernel
theorem dX9_mayTurn_2 : decode cX9_mayTurn 2 = .ok (.irem, 1) := by decide +kernel
theorem dX9_mayTurn_3 : decode cX9_mayTurn 3 = .ok (.ifCond .eq 14, 3) := by decide +kernel
theorem dX9_mayTurn_6 : decode cX9_mayTurn 6 = .ok (.aload_n 0, 1) := by decide +kernel
theorem dX9_mayTurn_7 : decode cX9_mayTurn 7 = .ok (.getfield 85, 3) := by decide +kernel
theorem dX9_mayTurn_10 : decode cX9_mayTurn 10 = .ok (.aload_n 0, 1) := by decide +kernel
theorem dX9_mayTurn_11 : decode cX9_mayTurn 11 = .ok (.getfield 88, 3) := by decide +kernel
theorem dX9_mayTurn_14 : decode cX9_mayTurn 14 = .ok (.if_icmp .ne 7, 3) := by decide +kernel
theorem dX9_mayTurn_17 : decode cX9_mayTurn 17 = .ok (.iconst 1, 1) := by decide +kernel
theorem dX9_mayTurn_18 : decode cX9_mayTurn 18 = .ok (.goto 4, 3) := by decide +kernel
theorem dX9_mayTurn_21 : decode cX9_mayTurn 21 = .ok (.iconst 0, 1) := by decide +kernel
theorem dX9_mayTurn_22 : decode cX9_mayTurn 22 = .ok (.ireturn, 1) := by decide +kernel
theorem dX9_comesTo_0 : decode cX9_comesTo 0 = .ok (.iload_n 2, 1) := by decide +kernel
theorem dX9_comesTo_1 : decode cX9_comesTo 1 = .ok (.iconst 3, 1) := by decide +kernel
theorem dX9_comesTo_2 : decode cX9_comesTo 2 = .ok (.if_icmp .le 19, 3) := by decide +kernel
theorem dX9_comesTo_5 : decode cX9_comesTo 5 = .ok (.aload_n 0, 1) := by decide +kernel
theorem dX9_comesTo_6 : decode cX9_comesTo 6 = .ok (.getfield 85, 3) := by decide +kernel
theorem dX9_comesTo_9 : decode cX9_comesTo 9 = .ok (.iconst 1, 1) := by decide +kernel
theorem dX9_comesTo_10 : decode cX9_comesTo 10 = .ok (.isub, 1) := by decide +kernel
theorem dX9_comesTo_11 : decode cX9_comesTo 11 = .ok (.iload_n 1, 1) := by decide +kernel
theorem dX9_comesTo_12 : decode cX9_comesTo 12 = .ok (.aload_n 0, 1) := by decide +kernel
theorem dX9_comesTo_13 : decode cX9_comesTo 13 = .ok (.getfield 85, 3) := by decide +kernel
theorem dX9_comesTo_16 : decode cX9_comesTo 16 = .ok (.irem, 1) := by decide +kernel
theorem dX9_comesTo_17 : decode cX9_comesTo 17 = .ok (.isub, 1) := by decide +kernel
theorem dX9_comesTo_18 : decode cX9_comesTo 18 = .ok (.goto 9, 3) := by decide +kernel
theorem dX9_comesTo_21 : decode cX9_comesTo 21 = .ok (.iload_n 1, 1) := by decide +kernel
theorem dX9_comesTo_22 : decode cX9_comesTo 22 = .ok (.aload_n 0, 1) := by decide +kernel
theorem dX9_comesTo_23 : decode cX9_comesTo 23 = .ok (.getfield 85, 3) := by decide +kernel
theorem dX9_comesTo_26 : decode cX9_comesTo 26 = .ok (.irem, 1) := by decide +kernel
theorem dX9_comesTo_27 : decode cX9_comesTo 27 = .ok (.istore_n 3, 1) := by decide +kernel
theorem dX9_comesTo_28 : decode cX9_comesTo 28 = .ok (.iload_n 1, 1) := by decide +kernel
theorem dX9_comesTo_29 : decode cX9_comesTo 29 = .ok (.aload_n 0, 1) := by decide +kernel
theorem dX9_comesTo_30 : decode cX9_comesTo 30 = .ok (.getfield 85, 3) := by decide +kernel
theorem dX9_comesTo_33 : decode cX9_comesTo 33 = .ok (.idiv, 1) := by decide +kernel
theorem dX9_comesTo_34 : decode cX9_comesTo 34 = .ok (.istore 4, 2) := by decide +kernel
theorem dX9_comesTo_36 : decode cX9_comesTo 36 = .ok (.iload_n 2, 1) := by decide +kernel
theorem dX9_comesTo_37 : decode cX9_comesTo 37 = .ok (.iconst 4, 1) := by decide +kernel
theorem dX9_comesTo_38 : decode cX9_comesTo 38 = .ok (.irem, 1) := by decide +kernel
theorem dX9_comesTo_39 : decode cX9_comesTo 39 = .ok (.tableswitch 76 0 2 #[25, 35, 52], 25) := by decide +kernel
theorem dX9_comesTo_64 : decode cX9_comesTo 64 = .ok (.iload 4, 2) := by decide +kernel
theorem dX9_comesTo_66 : decode cX9_comesTo 66 = .ok (.aload_n 0, 1) := by decide +kernel
theorem dX9_comesTo_67 : decode cX9_comesTo 67 = .ok (.getfield 85, 3) := by decide +kernel
theorem dX9_comesTo_70 : decode cX9_comesTo 70 = .ok (.imul, 1) := by decide +kernel
theorem dX9_comesTo_71 : decode cX9_comesTo 71 = .ok (.iload_n 3, 1) := by decide +kernel
theorem dX9_comesTo_72 : decode cX9_comesTo 72 = .ok (.iadd, 1) := by decide +kernel
theorem dX9_comesTo_73 : decode cX9_comesTo 73 = .ok (.ireturn, 1) := by decide +kernel
theorem dX9_comesTo_74 : decode cX9_comesTo 74 = .ok (.iload_n 3, 1) := by decide +kernel
theorem dX9_comesTo_75 : decode cX9_comesTo 75 = .ok (.aload_n 0, 1) := by decide +kernel
theorem dX9_comesTo_76 : decode cX9_comesTo 76 = .ok (.getfield 85, 3) := by decide +kernel
theorem dX9_comesTo_79 : decode cX9_comesTo 79 = .ok (.imul, 1) := by decide +kernel
theorem dX9_comesTo_80 : decode cX9_comesTo 80 = .ok (.aload_n 0, 1) := by decide +kernel
theorem dX9_comesTo_81 : decode cX9_comesTo 81 = .ok (.getfield 88, 3) := by decide +kernel
theorem dX9_comesTo_84 : decode cX9_comesTo 84 = .ok (.iadd, 1) := by decide +kernel
theorem dX9_comesTo_85 : decode cX9_comesTo 85 = .ok (.iconst 1, 1) := by decide +kernel
theorem dX9_comesTo_86 : decode cX9_comesTo 86 = .ok (.isub, 1) := by decide +kernel
theorem dX9_comesTo_87 : decode cX9_comesTo 87 = .ok (.iload 4, 2) := by decide +kernel
theorem dX9_comesTo_89 : decode cX9_comesTo 89 = .ok (.isub, 1) := by decide +kernel
theorem dX9_comesTo_90 : decode cX9_comesTo 90 = .ok (.ireturn, 1) := by decide +kernel
theorem dX9_comesTo_91 : decode cX9_comesTo 91 = .ok (.aload_n 0, 1) := by decide +kernel
theorem dX9_comesTo_92 : decode cX9_comesTo 92 = .ok (.getfield 88, 3) := by decide +kernel
theorem dX9_comesTo_95 : decode cX9_comesTo 95 = .ok (.iconst 1, 1) := by decide +kernel
theorem dX9_comesTo_96 : decode cX9_comesTo 96 = .ok (.isub, 1) := by decide +kernel
theorem dX9_comesTo_97 : decode cX9_comesTo 97 = .ok (.iload 4, 2) := by decide +kernel
theorem dX9_comesTo_99 : decode cX9_comesTo 99 = .ok (.isub, 1) := by decide +kernel
theorem dX9_comesTo_100 : decode cX9_comesTo 100 = .ok (.aload_n 0, 1) := by decide +kernel
theorem dX9_comesTo_101 : decode cX9_comesTo 101 = .ok (.getfield 85, 3) := by decide +kernel
theorem dX9_comesTo_104 : decode cX9_comesTo 104 = .ok (.imul, 1) := by decide +kernel
theorem dX9_comesTo_105 : decode cX9_comesTo 105 = .ok (.aload_n 0, 1) := by decide +kernel
theorem dX9_comesTo_106 : decode cX9_comesTo 106 = .ok (.getfield 85, 3) := by decide +kernel
theorem dX9_comesTo_109 : decode cX9_comesTo 109 = .ok (.iadd, 1) := by decide +kernel
theorem dX9_comesTo_110 : decode cX9_comesTo 110 = .ok (.iconst 1, 1) := by decide +kernel
theorem dX9_comesTo_111 : decode cX9_comesTo 111 = .ok (.isub, 1) := by decide +kernel
theorem dX9_comesTo_112 : decode cX9_comesTo 112 = .ok (.iload_n 3, 1) := by decide +kernel
theorem dX9_comesTo_113 : decode cX9_comesTo 113 = .ok (.isub, 1) := by decide +kernel
theorem dX9_comesTo_114 : decode cX9_comesTo 114 = .ok (.ireturn, 1) := by decide +kernel
theorem dX9_comesTo_115 : decode cX9_comesTo 115 = .ok (.aload_n 0, 1) := by decide +kernel
theorem dX9_comesTo_116 : decode cX9_comesTo 116 = .ok (.getfield 85, 3) := by decide +kernel
theorem dX9_comesTo_119 : decode cX9_comesTo 119 = .ok (.iconst 1, 1) := by decide +kernel
theorem dX9_comesTo_120 : decode cX9_comesTo 120 = .ok (.isub, 1) := by decide +kernel
theorem dX9_comesTo_121 : decode cX9_comesTo 121 = .ok (.iload_n 3, 1) := by decide +kernel
theorem dX9_comesTo_122 : decode cX9_comesTo 122 = .ok (.isub, 1) := by decide +kernel
theorem dX9_comesTo_123 : decode cX9_comesTo 123 = .ok (.aload_n 0, 1) := by decide +kernel
theorem dX9_comesTo_124 : decode cX9_comesTo 124 = .ok (.getfield 85, 3) := by decide +kernel
theorem dX9_comesTo_127 : decode cX9_comesTo 127 = .ok (.imul, 1) := by decide +kernel
theorem dX9_comesTo_128 : decode cX9_comesTo 128 = .ok (.iload 4, 2) := by decide +kernel
theorem dX9_comesTo_130 : decode cX9_comesTo 130 = .ok (.iadd, 1) := by decide +kernel
theorem dX9_comesTo_131 : decode cX9_comesTo 131 = .ok (.ireturn, 1) := by decide +kernel
set_option maxRecDepth 20000 in
theorem ggX9_layTurned_X9_cells : GoodIn wsX9_layTurned wsX9_cells := goodIn_r _ [7, 8, 9, 14, 15, 16, 17, 18, 19, 20, 21, 22, 23, 24, 25, 26, 27, 28, 29, 30, 31, 32, 33, 34, 35, 36, 37, 38, 39] (by decide +kernel) (by decide +kernel)
set_option maxRecDepth 20000 in
theorem gX9_layTurned_X9_cells : GoodIn wsX9_layTurned (wsV RX9 97 RX9 yX9_cells wsX9_cells) := goodIn_app (goodIn_of _ (by decide +kernel)) ggX9_layTurned_X9_cells
set_option maxRecDepth 20000 in
theorem ggX9_layTurned_X9_comesTo : GoodIn wsX9_layTurned wsX9_comesTo := goodIn_r _ [13, 8, 9, 14, 15, 16, 17, 18, 19, 20, 21, 22, 23, 24, 25, 26, 27, 28, 29, 30, 31, 32, 33, 34, 35, 36, 37, 38, 39] (by decide +kernel) (by decide +kernel)
set_option maxRecDepth 20000 in
theorem gX9_layTurned_X9_comesTo : GoodIn wsX9_layTurned (wsV RX9 198 RX9 yX9_comesTo wsX9_comesTo) := goodIn_app (goodIn_of _ (by decide +kernel)) ggX9_layTurned_X9_comesTo
theorem dX9_layTurned_0 : decode cX9_layTurned 0 = .ok (.iconst 0, 1) := by decide +kernel
theorem dX9_layTurned_1 : decode cX9_layTurned 1 = .ok (.istore_n 3, 1) := by decide +kernel
theorem dX9_layTurned_2 : decode cX9_layTurned 2 = .ok (.iload_n 3, 1) := by decide +kernel
theorem dX9_layTurned_3 : decode cX9_layTurned 3 = .ok (.aload_n 0, 1) := by decide +kernel
theorem dX9_layTurned_4 : decode cX9_layTurned 4 = .ok (.invokevirtual 97, 3) := by decide +kernel
theorem dX9_layTurned_7 : decode cX9_layTurned 7 = .ok (.if_icmp .ge 31, 3) := by decide +kernel
theorem dX9_layTurned_10 : decode cX9_layTurned 10 = .ok (.aload_n 0, 1) := by decide +kernel
theorem dX9_layTurned_11 : decode cX9_layTurned 11 = .ok (.getfield 75, 3) := by decide +kernel
theorem dX9_layTurned_14 : decode cX9_layTurned 14 = .ok (.aload_n 0, 1) := by decide +kernel
theorem dX9_layTurned_15 : decode cX9_layTurned 15 = .ok (.iload_n 3, 1) := by decide +kernel
theorem dX9_layTurned_16 : decode cX9_layTurned 16 = .ok (.iload_n 2, 1) := by decide +kernel
theorem dX9_layTurned_17 : decode cX9_layTurned 17 = .ok (.invokevirtual 198, 3) := by decide +kernel
theorem dX9_layTurned_20 : decode cX9_layTurned 20 = .ok (.aload_n 0, 1) := by decide +kernel
theorem dX9_layTurned_21 : decode cX9_layTurned 21 = .ok (.getfield 7, 3) := by decide +kernel
theorem dX9_layTurned_24 : decode cX9_layTurned 24 = .ok (.bipush 25, 2) := by decide +kernel
theorem dX9_layTurned_26 : decode cX9_layTurned 26 = .ok (.iload_n 1, 1) := by decide +kernel
theorem dX9_layTurned_27 : decode cX9_layTurned 27 = .ok (.imul, 1) := by decide +kernel
theorem dX9_layTurned_28 : decode cX9_layTurned 28 = .ok (.iload_n 3, 1) := by decide +kernel
theorem dX9_layTurned_29 : decode cX9_layTurned 29 = .ok (.iadd, 1) := by decide +kernel
theorem dX9_layTurned_30 : decode cX9_layTurned 30 = .ok (.iaload, 1) := by decide +kernel
theorem dX9_layTurned_31 : decode cX9_layTurned 31 = .ok (.iastore, 1) := by decide +kernel
theorem dX9_layTurned_32 : decode cX9_layTurned 32 = .ok (.iinc 3 1, 3) := by decide +kernel
theorem dX9_layTurned_35 : decode cX9_layTurned 35 = .ok (.goto (-33), 3) := by decide +kernel
theorem dX9_layTurned_38 : decode cX9_layTurned 38 = .ok (.return_, 1) := by decide +kernel
set_option maxRecDepth 20000 in
theorem ggX9_unlikeTurned_X9_cells : GoodIn wsX9_unlikeTurned wsX9_cells := goodIn_r _ [7, 8, 9, 10, 11, 12, 13, 14, 15, 16, 17, 18, 19, 20, 21, 22, 23, 24, 25, 26, 27, 28, 29, 30, 31, 32, 33, 34, 35] (by decide +kernel) (by decide +kernel)
set_option maxRecDepth 20000 in
theorem gX9_unlikeTurned_X9_cells : GoodIn wsX9_unlikeTurned (wsV RX9 97 RX9 yX9_cells wsX9_cells) := goodIn_app (goodIn_of _ (by decide +kernel)) ggX9_unlikeTurned_X9_cells
theorem dX9_unlikeTurned_0 : decode cX9_unlikeTurned 0 = .ok (.iconst 0, 1) := by decide +kernel
theorem dX9_unlikeTurned_1 : decode cX9_unlikeTurned 1 = .ok (.istore_n 2, 1) := by decide +kernel
theorem dX9_unlikeTurned_2 : decode cX9_unlikeTurned 2 = .ok (.iconst 0, 1) := by decide +kernel
theorem dX9_unlikeTurned_3 : decode cX9_unlikeTurned 3 = .ok (.istore_n 3, 1) := by decide +kernel
theorem dX9_unlikeTurned_4 : decode cX9_unlikeTurned 4 = .ok (.iload_n 3, 1) := by decide +kernel
theorem dX9_unlikeTurned_5 : decode cX9_unlikeTurned 5 = .ok (.aload_n 0, 1) := by decide +kernel
theorem dX9_unlikeTurned_6 : decode cX9_unlikeTurned 6 = .ok (.invokevirtual 97, 3) := by decide +kernel
theorem dX9_unlikeTurned_9 : decode cX9_unlikeTurned 9 = .ok (.if_icmp .ge 37, 3) := by decide +kernel
theorem dX9_unlikeTurned_12 : decode cX9_unlikeTurned 12 = .ok (.iload_n 2, 1) := by decide +kernel
theorem dX9_unlikeTurned_13 : decode cX9_unlikeTurned 13 = .ok (.aload_n 0, 1) := by decide +kernel
theorem dX9_unlikeTurned_14 : decode cX9_unlikeTurned 14 = .ok (.getfield 75, 3) := by decide +kernel
theorem dX9_unlikeTurned_17 : decode cX9_unlikeTurned 17 = .ok (.iload_n 3, 1) := by decide +kernel
theorem dX9_unlikeTurned_18 : decode cX9_unlikeTurned 18 = .ok (.iaload, 1) := by decide +kernel
theorem dX9_unlikeTurned_19 : decode cX9_unlikeTurned 19 = .ok (.aload_n 0, 1) := by decide +kernel
theorem dX9_unlikeTurned_20 : decode cX9_unlikeTurned 20 = .ok (.getfield 7, 3) := by decide +kernel
theorem dX9_unlikeTurned_23 : decode cX9_unlikeTurned 23 = .ok (.bipush 25, 2) := by decide +kernel
theorem dX9_unlikeTurned_25 : decode cX9_unlikeTurned 25 = .ok (.iload_n 1, 1) := by decide +kernel
theorem dX9_unlikeTurned_26 : decode cX9_unlikeTurned 26 = .ok (.imul, 1) := by decide +kernel
theorem dX9_unlikeTurned_27 : decode cX9_unlikeTurned 27 = .ok (.iload_n 3, 1) := by decide +kernel
theorem dX9_unlikeTurned_28 : decode cX9_unlikeTurned 28 = .ok (.iadd, 1) := by decide +kernel
theorem dX9_unlikeTurned_29 : decode cX9_unlikeTurned 29 = .ok (.iaload, 1) := by decide +kernel
theorem dX9_unlikeTurned_30 : decode cX9_unlikeTurned 30 = .ok (.if_icmp .eq 7, 3) := by decide +kernel
theorem dX9_unlikeTurned_33 : decode cX9_unlikeTurned 33 = .ok (.iconst 1, 1) := by decide +kernel
theorem dX9_unlikeTurned_34 : decode cX9_unlikeTurned 34 = .ok (.goto 4, 3) := by decide +kernel
theorem dX9_unlikeTurned_37 : decode cX9_unlikeTurned 37 = .ok (.iconst 0, 1) := by decide +kernel
theorem dX9_unlikeTurned_38 : decode cX9_unlikeTurned 38 = .ok (.iadd, 1) := by decide +kernel
theorem dX9_unlikeTurned_39 : decode cX9_unlikeTurned 39 = .ok (.istore_n 2, 1) := by decide +kernel
theorem dX9_unlikeTurned_40 : decode cX9_unlikeTurned 40 = .ok (.iinc 3 1, 3) := by decide +kernel
theorem dX9_unlikeTurned_43 : decode cX9_unlikeTurned 43 = .ok (.goto (-39), 3) := by decide +kernel
theorem dX9_unlikeTurned_46 : decode cX9_unlikeTurned 46 = .ok (.iload_n 2, 1) := by decide +kernel
theorem dX9_unlikeTurned_47 : decode cX9_unlikeTurned 47 = .ok (.ireturn, 1) := by decide +kernel
set_option maxRecDepth 20000 in
theorem ggX9_turn_X9_isSlot : GoodIn wsX9_turn wsX9_isSlot := goodIn_r _ [7, 8, 9, 10, 6, 11] (by decide +kernel) (by decide +kernel)
set_option maxRecDepth 20000 in
theorem gX9_turn_X9_isSlot : GoodIn wsX9_turn (va_wsS RX9 103 yX9_isSlot wsX9_isSlot) := goodIn_app (goodIn_of _ (by decide +kernel)) ggX9_turn_X9_isSlot
set_option maxRecDepth 20000 in
theorem ggX9_turn_X9_in : GoodIn wsX9_turn wsX9_in := goodIn_r _ [11] (by decide +kernel) (by decide +kernel)
set_option maxRecDepth 20000 in
theorem gX9_turn_X9_in : GoodIn wsX9_turn (va_wsS RX9 93 yX9_in wsX9_in) := goodIn_app (goodIn_of _ (by decide +kernel)) ggX9_turn_X9_in
set_option maxRecDepth 20000 in
theorem ggX9_turn_X9_mayTurn : GoodIn wsX9_turn wsX9_mayTurn := goodIn_r _ [15, 16, 17, 34, 35, 36, 37, 38, 39, 40, 41, 42, 43, 44, 45, 46, 47, 48, 49, 50, 51, 52, 53, 54, 55, 56, 57, 58, 59] (by decide +kernel) (by decide +kernel)
set_option maxRecDepth 20000 in
theorem gX9_turn_X9_mayTurn : GoodIn wsX9_turn (wsV RX9 203 RX9 yX9_mayTurn wsX9_mayTurn) := goodIn_app (goodIn_of _ (by decide +kernel)) ggX9_turn_X9_mayTurn
set_option maxRecDepth 20000 in
theorem ggX9_turn_X9_layTurned : GoodIn wsX9_turn wsX9_layTurned := goodIn_r _ [21, 3, 2, 22, 23, 24, 6, 25, 16, 17, 26, 27, 28, 29, 34, 35, 36, 37, 38, 39, 40, 41, 42, 43, 44, 45, 46, 47, 48, 49, 50, 51, 52, 53, 54, 55, 56, 57, 58, 59] (by decide +kernel) (by decide +kernel)
set_option maxRecDepth 20000 in
theorem gX9_turn_X9_layTurned : GoodIn wsX9_turn (wsV RX9 206 RX9 yX9_layTurned wsX9_layTurned) := goodIn_app (goodIn_of _ (by decide +kernel)) ggX9_turn_X9_layTurned
set_option maxRecDepth 20000 in
theorem ggX9_turn_X9_unlikeTurned : GoodIn wsX9_turn wsX9_unlikeTurned := goodIn_r _ [33, 3, 2, 22, 23, 24, 6, 25, 16, 17, 34, 35, 36, 37, 38, 39, 40, 41, 42, 43, 44, 45, 46, 47, 48, 49, 50, 51, 52, 53, 54, 55, 56, 57, 58, 59] (by decide +kernel) (by decide +kernel)
set_option maxRecDepth 20000 in
theorem gX9_turn_X9_unlikeTurned : GoodIn wsX9_turn (wsV RX9 209 RX9 yX9_unlikeTurned wsX9_unlikeTurned) := goodIn_app (goodIn_of _ (by decide +kernel)) ggX9_turn_X9_unlikeTurned
set_option maxRecDepth 20000 in
theorem ggX9_turn_X9_cells : GoodIn wsX9_turn wsX9_cells := goodIn_r _ [25, 16, 17, 34, 35, 36, 37, 38, 39, 40, 41, 42, 43, 44, 45, 46, 47, 48, 49, 50, 51, 52, 53, 54, 55, 56, 57, 58, 59] (by decide +kernel) (by decide +kernel)
set_option maxRecDepth 20000 in
theorem gX9_turn_X9_cells : GoodIn wsX9_turn (wsV RX9 97 RX9 yX9_cells wsX9_cells) := goodIn_app (goodIn_of _ (by decide +kernel)) ggX9_turn_X9_cells
theorem dX9_turn_0 : decode cX9_turn 0 = .ok (.iload_n 1, 1) := by decide +kernel
theorem dX9_turn_1 : decode cX9_turn 1 = .ok (.invokestatic 103, 3) := by decide +kernel
theorem dX9_turn_4 : decode cX9_turn 4 = .ok (.ifCond .ne 5, 3) := by decide +kernel
theorem dX9_turn_7 : decode cX9_turn 7 = .ok (.iconst (-1), 1) := by decide +kernel
theorem dX9_turn_8 : decode cX9_turn 8 = .ok (.ireturn, 1) := by decide +kernel
theorem dX9_turn_9 : decode cX9_turn 9 = .ok (.iload_n 2, 1) := by decide +kernel
theorem dX9_turn_10 : decode cX9_turn 10 = .ok (.i2l, 1) := by decide +kernel
theorem dX9_turn_11 : decode cX9_turn 11 = .ok (.lconst 0, 1) := by decide +kernel
theorem dX9_turn_12 : decode cX9_turn 12 = .ok (.ldc2_w 201, 3) := by decide +kernel
theorem dX9_turn_15 : decode cX9_turn 15 = .ok (.invokestatic 93, 3) := by decide +kernel
theorem dX9_turn_18 : decode cX9_turn 18 = .ok (.ifCond .ne 6, 3) := by decide +kernel
theorem dX9_turn_21 : decode cX9_turn 21 = .ok (.bipush (-2), 2) := by decide +kernel
theorem dX9_turn_23 : decode cX9_turn 23 = .ok (.ireturn, 1) := by decide +kernel
theorem dX9_turn_24 : decode cX9_turn 24 = .ok (.aload_n 0, 1) := by decide +kernel
theorem dX9_turn_25 : decode cX9_turn 25 = .ok (.iload_n 2, 1) := by decide +kernel
theorem dX9_turn_26 : decode cX9_turn 26 = .ok (.invokevirtual 203, 3) := by decide +kernel
theorem dX9_turn_29 : decode cX9_turn 29 = .ok (.ifCond .ne 6, 3) := by decide +kernel
theorem dX9_turn_32 : decode cX9_turn 32 = .ok (.bipush (-3), 2) := by decide +kernel
theorem dX9_turn_34 : decode cX9_turn 34 = .ok (.ireturn, 1) := by decide +kernel
theorem dX9_turn_35 : decode cX9_turn 35 = .ok (.aload_n 0, 1) := by decide +kernel
theorem dX9_turn_36 : decode cX9_turn 36 = .ok (.iload_n 1, 1) := by decide +kernel
theorem dX9_turn_37 : decode cX9_turn 37 = .ok (.iload_n 2, 1) := by decide +kernel
theorem dX9_turn_38 : decode cX9_turn 38 = .ok (.invokevirtual 206, 3) := by decide +kernel
theorem dX9_turn_41 : decode cX9_turn 41 = .ok (.aload_n 0, 1) := by decide +kernel
theorem dX9_turn_42 : decode cX9_turn 42 = .ok (.iload_n 1, 1) := by decide +kernel
theorem dX9_turn_43 : decode cX9_turn 43 = .ok (.invokevirtual 209, 3) := by decide +kernel
theorem dX9_turn_46 : decode cX9_turn 46 = .ok (.istore_n 3, 1) := by decide +kernel
theorem dX9_turn_47 : decode cX9_turn 47 = .ok (.iconst 0, 1) := by decide +kernel
theorem dX9_turn_48 : decode cX9_turn 48 = .ok (.istore 4, 2) := by decide +kernel
theorem dX9_turn_50 : decode cX9_turn 50 = .ok (.iload 4, 2) := by decide +kernel
theorem dX9_turn_52 : decode cX9_turn 52 = .ok (.aload_n 0, 1) := by decide +kernel
theorem dX9_turn_53 : decode cX9_turn 53 = .ok (.invokevirtual 97, 3) := by decide +kernel
theorem dX9_turn_56 : decode cX9_turn 56 = .ok (.if_icmp .ge 28, 3) := by decide +kernel
theorem dX9_turn_59 : decode cX9_turn 59 = .ok (.aload_n 0, 1) := by decide +kernel
theorem dX9_turn_60 : decode cX9_turn 60 = .ok (.getfield 7, 3) := by decide +kernel
theorem dX9_turn_63 : decode cX9_turn 63 = .ok (.bipush 25, 2) := by decide +kernel
theorem dX9_turn_65 : decode cX9_turn 65 = .ok (.iload_n 1, 1) := by decide +kernel
theorem dX9_turn_66 : decode cX9_turn 66 = .ok (.imul, 1) := by decide +kernel
theorem dX9_turn_67 : decode cX9_turn 67 = .ok (.iload 4, 2) := by decide +kernel
theorem dX9_turn_69 : decode cX9_turn 69 = .ok (.iadd, 1) := by decide +kernel
theorem dX9_turn_70 : decode cX9_turn 70 = .ok (.aload_n 0, 1) := by decide +kernel
theorem dX9_turn_71 : decode cX9_turn 71 = .ok (.getfield 75, 3) := by decide +kernel
theorem dX9_turn_74 : decode cX9_turn 74 = .ok (.iload 4, 2) := by decide +kernel
theorem dX9_turn_76 : decode cX9_turn 76 = .ok (.iaload, 1) := by decide +kernel
theorem dX9_turn_77 : decode cX9_turn 77 = .ok (.iastore, 1) := by decide +kernel
theorem dX9_turn_78 : decode cX9_turn 78 = .ok (.iinc 4 1, 3) := by decide +kernel
theorem dX9_turn_81 : decode cX9_turn 81 = .ok (.goto (-31), 3) := by decide +kernel
theorem dX9_turn_84 : decode cX9_turn 84 = .ok (.iload_n 3, 1) := by decide +kernel
theorem dX9_turn_85 : decode cX9_turn 85 = .ok (.ireturn, 1) := by decide +kernel
set_option maxRecDepth 20000 in
theorem ggX9_alike_X9_isSlot : GoodIn wsX9_alike wsX9_isSlot := goodIn_r _ [4, 5, 6, 7, 3, 8] (by decide +kernel) (by decide +kernel)
set_option maxRecDepth 20000 in
theorem gX9_alike_X9_isSlot : GoodIn wsX9_alike (va_wsS RX9 103 yX9_isSlot wsX9_isSlot) := goodIn_app (goodIn_of _ (by decide +kernel)) ggX9_alike_X9_isSlot
set_option maxRecDepth 20000 in
theorem ggX9_alike_X9_mayTurn : GoodIn wsX9_alike wsX9_mayTurn := goodIn_r _ [12, 13, 14, 33, 34, 35, 36, 37, 38, 39, 40, 41, 42, 43, 44, 45, 46, 47, 48, 49, 50, 51, 52, 53, 54, 55, 56, 57, 58] (by decide +kernel) (by decide +kernel)
set_option maxRecDepth 20000 in
theorem gX9_alike_X9_mayTurn : GoodIn wsX9_alike (wsV RX9 203 RX9 yX9_mayTurn wsX9_mayTurn) := goodIn_app (goodIn_of _ (by decide +kernel)) ggX9_alike_X9_mayTurn
set_option maxRecDepth 20000 in
theorem ggX9_alike_X9_layTurned : GoodIn wsX9_alike wsX9_layTurned := goodIn_r _ [18, 19, 20, 21, 22, 23, 3, 24, 13, 14, 25, 26, 27, 28, 33, 34, 35, 36, 37, 38, 39, 40, 41, 42, 43, 44, 45, 46, 47, 48, 49, 50, 51, 52, 53, 54, 55, 56, 57, 58] (by decide +kernel) (by decide +kernel)
set_option maxRecDepth 20000 in
theorem gX9_alike_X9_layTurned : GoodIn wsX9_alike (wsV RX9 206 RX9 yX9_layTurned wsX9_layTurned) := goodIn_app (goodIn_of _ (by decide +kernel)) ggX9_alike_X9_layTurned
set_option maxRecDepth 20000 in
theorem ggX9_alike_X9_unlikeTurned : GoodIn wsX9_alike wsX9_unlikeTurned := goodIn_r _ [32, 19, 20, 21, 22, 23, 3, 24, 13, 14, 33, 34, 35, 36, 37, 38, 39, 40, 41, 42, 43, 44, 45, 46, 47, 48, 49, 50, 51, 52, 53, 54, 55, 56, 57, 58] (by decide +kernel) (by decide +kernel)
set_option maxRecDepth 20000 in
theorem gX9_alike_X9_unlikeTurned : GoodIn wsX9_alike (wsV RX9 209 RX9 yX9_unlikeTurned wsX9_unlikeTurned) := goodIn_app (goodIn_of _ (by decide +kernel)) ggX9_alike_X9_unlikeTurned
theorem dX9_alike_0 : decode cX9_alike 0 = .ok (.iload_n 1, 1) := by decide +kernel
theorem dX9_alike_1 : decode cX9_alike 1 = .ok (.invokestatic 103, 3) := by decide +kernel
theorem dX9_alike_4 : decode cX9_alike 4 = .ok (.ifCond .eq 10, 3) := by decide +kernel
theorem dX9_alike_7 : decode cX9_alike 7 = .ok (.iload_n 2, 1) := by decide +kernel
theorem dX9_alike_8 : decode cX9_alike 8 = .ok (.invokestatic 103, 3) := by decide +kernel
theorem dX9_alike_11 : decode cX9_alike 11 = .ok (.ifCond .ne 5, 3) := by decide +kernel
theorem dX9_alike_14 : decode cX9_alike 14 = .ok (.iconst (-1), 1) := by decide +kernel
theorem dX9_alike_15 : decode cX9_alike 15 = .ok (.ireturn, 1) := by decide +kernel
theorem dX9_alike_16 : decode cX9_alike 16 = .ok (.iconst 0, 1) := by decide +kernel
theorem dX9_alike_17 : decode cX9_alike 17 = .ok (.istore_n 3, 1) := by decide +kernel
theorem dX9_alike_18 : decode cX9_alike 18 = .ok (.iconst 0, 1) := by decide +kernel
theorem dX9_alike_19 : decode cX9_alike 19 = .ok (.istore 4, 2) := by decide +kernel
theorem dX9_alike_21 : decode cX9_alike 21 = .ok (.iload 4, 2) := by decide +kernel
theorem dX9_alike_23 : decode cX9_alike 23 = .ok (.bipush 8, 2) := by decide +kernel
theorem dX9_alike_25 : decode cX9_alike 25 = .ok (.if_icmp .ge 43, 3) := by decide +kernel
theorem dX9_alike_28 : decode cX9_alike 28 = .ok (.aload_n 0, 1) := by decide +kernel
theorem dX9_alike_29 : decode cX9_alike 29 = .ok (.iload 4, 2) := by decide +kernel
theorem dX9_alike_31 : decode cX9_alike 31 = .ok (.invokevirtual 203, 3) := by decide +kernel
theorem dX9_alike_34 : decode cX9_alike 34 = .ok (.ifCond .eq 28, 3) := by decide +kernel
theorem dX9_alike_37 : decode cX9_alike 37 = .ok (.aload_n 0, 1) := by decide +kernel
theorem dX9_alike_38 : decode cX9_alike 38 = .ok (.iload_n 1, 1) := by decide +kernel
theorem dX9_alike_39 : decode cX9_alike 39 = .ok (.iload 4, 2) := by decide +kernel
theorem dX9_alike_41 : decode cX9_alike 41 = .ok (.invokevirtual 206, 3) := by decide +kernel
theorem dX9_alike_44 : decode cX9_alike 44 = .ok (.iload_n 3, 1) := by decide +kernel
theorem dX9_alike_45 : decode cX9_alike 45 = .ok (.ifCond .ne 11, 3) := by decide +kernel
theorem dX9_alike_48 : decode cX9_alike 48 = .ok (.aload_n 0, 1) := by decide +kernel
theorem dX9_alike_49 : decode cX9_alike 49 = .ok (.iload_n 2, 1) := by decide +kernel
theorem dX9_alike_50 : decode cX9_alike 50 = .ok (.invokevirtual 209, 3) := by decide +kernel
theorem dX9_alike_53 : decode cX9_alike 53 = .ok (.ifCond .ne 7, 3) := by decide +kernel
theorem dX9_alike_56 : decode cX9_alike 56 = .ok (.iconst 1, 1) := by decide +kernel
theorem dX9_alike_57 : decode cX9_alike 57 = .ok (.goto 4, 3) := by decide +kernel
theorem dX9_alike_60 : decode cX9_alike 60 = .ok (.iconst 0, 1) := by decide +kernel
theorem dX9_alike_61 : decode cX9_alike 61 = .ok (.istore_n 3, 1) := by decide +kernel
theorem dX9_alike_62 : decode cX9_alike 62 = .ok (.iinc 4 1, 3) := by decide +kernel
theorem dX9_alike_65 : decode cX9_alike 65 = .ok (.goto (-44), 3) := by decide +kernel
theorem dX9_alike_68 : decode cX9_alike 68 = .ok (.iload_n 3, 1) := by decide +kernel
theorem dX9_alike_69 : decode cX9_alike 69 = .ok (.ifCond .eq 7, 3) := by decide +kernel
theorem dX9_alike_72 : decode cX9_alike 72 = .ok (.iconst 1, 1) := by decide +kernel
theorem dX9_alike_73 : decode cX9_alike 73 = .ok (.goto 4, 3) := by decide +kernel
theorem dX9_alike_76 : decode cX9_alike 76 = .ok (.iconst 0, 1) := by decide +kernel
theorem dX9_alike_77 : decode cX9_alike 77 = .ok (.ireturn, 1) := by decide +kernel
set_option maxRecDepth 20000 in
theorem ggX9_same_X9_isSlot : GoodIn wsX9_same wsX9_isSlot := goodIn_r _ [4, 5, 6, 7, 3, 8] (by decide +kernel) (by decide +kernel)
set_option maxRecDepth 20000 in
theorem gX9_same_X9_isSlot : GoodIn wsX9_same (va_wsS RX9 103 yX9_isSlot wsX9_isSlot) := goodIn_app (goodIn_of _ (by decide +kernel)) ggX9_same_X9_isSlot
set_option maxRecDepth 20000 in
theorem ggX9_same_X9_mayTurn : GoodIn wsX9_same wsX9_mayTurn := goodIn_r _ [12, 13, 14, 33, 34, 35, 36, 37, 38, 39, 40, 41, 42, 43, 44, 45, 46, 47, 48, 49, 50, 51, 52, 53, 54, 55, 56, 57, 58] (by decide +kernel) (by decide +kernel)
set_option maxRecDepth 20000 in
theorem gX9_same_X9_mayTurn : GoodIn wsX9_same (wsV RX9 203 RX9 yX9_mayTurn wsX9_mayTurn) := goodIn_app (goodIn_of _ (by decide +kernel)) ggX9_same_X9_mayTurn
set_option maxRecDepth 20000 in
theorem ggX9_same_X9_layTurned : GoodIn wsX9_same wsX9_layTurned := goodIn_r _ [18, 19, 20, 21, 22, 23, 3, 24, 13, 14, 25, 26, 27, 28, 33, 34, 35, 36, 37, 38, 39, 40, 41, 42, 43, 44, 45, 46, 47, 48, 49, 50, 51, 52, 53, 54, 55, 56, 57, 58] (by decide +kernel) (by decide +kernel)
set_option maxRecDepth 20000 in
theorem gX9_same_X9_layTurned : GoodIn wsX9_same (wsV RX9 206 RX9 yX9_layTurned wsX9_layTurned) := goodIn_app (goodIn_of _ (by decide +kernel)) ggX9_same_X9_layTurned
set_option maxRecDepth 20000 in
theorem ggX9_same_X9_unlikeTurned : GoodIn wsX9_same wsX9_unlikeTurned := goodIn_r _ [32, 19, 20, 21, 22, 23, 3, 24, 13, 14, 33, 34, 35, 36, 37, 38, 39, 40, 41, 42, 43, 44, 45, 46, 47, 48, 49, 50, 51, 52, 53, 54, 55, 56, 57, 58] (by decide +kernel) (by decide +kernel)
set_option maxRecDepth 20000 in
theorem gX9_same_X9_unlikeTurned : GoodIn wsX9_same (wsV RX9 209 RX9 yX9_unlikeTurned wsX9_unlikeTurned) := goodIn_app (goodIn_of _ (by decide +kernel)) ggX9_same_X9_unlikeTurned
theorem dX9_same_0 : decode cX9_same 0 = .ok (.iload_n 1, 1) := by decide +kernel
theorem dX9_same_1 : decode cX9_same 1 = .ok (.invokestatic 103, 3) := by decide +kernel
theorem dX9_same_4 : decode cX9_same 4 = .ok (.ifCond .ne 5, 3) := by decide +kernel
theorem dX9_same_7 : decode cX9_same 7 = .ok (.iconst (-1), 1) := by decide +kernel
theorem dX9_same_8 : decode cX9_same 8 = .ok (.ireturn, 1) := by decide +kernel
theorem dX9_same_9 : decode cX9_same 9 = .ok (.iconst 0, 1) := by decide +kernel
theorem dX9_same_10 : decode cX9_same 10 = .ok (.istore_n 2, 1) := by decide +kernel
theorem dX9_same_11 : decode cX9_same 11 = .ok (.iconst 0, 1) := by decide +kernel
theorem dX9_same_12 : decode cX9_same 12 = .ok (.istore_n 3, 1) := by decide +kernel
theorem dX9_same_13 : decode cX9_same 13 = .ok (.iload_n 3, 1) := by decide +kernel
theorem dX9_same_14 : decode cX9_same 14 = .ok (.bipush 8, 2) := by decide +kernel
theorem dX9_same_16 : decode cX9_same 16 = .ok (.if_icmp .ge 39, 3) := by decide +kernel
theorem dX9_same_19 : decode cX9_same 19 = .ok (.aload_n 0, 1) := by decide +kernel
theorem dX9_same_20 : decode cX9_same 20 = .ok (.iload_n 3, 1) := by decide +kernel
theorem dX9_same_21 : decode cX9_same 21 = .ok (.invokevirtual 203, 3) := by decide +kernel
theorem dX9_same_24 : decode cX9_same 24 = .ok (.ifCond .eq 25, 3) := by decide +kernel
theorem dX9_same_27 : decode cX9_same 27 = .ok (.aload_n 0, 1) := by decide +kernel
theorem dX9_same_28 : decode cX9_same 28 = .ok (.iload_n 1, 1) := by decide +kernel
theorem dX9_same_29 : decode cX9_same 29 = .ok (.iload_n 3, 1) := by decide +kernel
theorem dX9_same_30 : decode cX9_same 30 = .ok (.invokevirtual 206, 3) := by decide +kernel
theorem dX9_same_33 : decode cX9_same 33 = .ok (.iload_n 2, 1) := by decide +kernel
theorem dX9_same_34 : decode cX9_same 34 = .ok (.aload_n 0, 1) := by decide +kernel
theorem dX9_same_35 : decode cX9_same 35 = .ok (.iload_n 1, 1) := by decide +kernel
theorem dX9_same_36 : decode cX9_same 36 = .ok (.invokevirtual 209, 3) := by decide +kernel
theorem dX9_same_39 : decode cX9_same 39 = .ok (.ifCond .ne 7, 3) := by decide +kernel
theorem dX9_same_42 : decode cX9_same 42 = .ok (.iconst 1, 1) := by decide +kernel
theorem dX9_same_43 : decode cX9_same 43 = .ok (.goto 4, 3) := by decide +kernel
theorem dX9_same_46 : decode cX9_same 46 = .ok (.iconst 0, 1) := by decide +kernel
theorem dX9_same_47 : decode cX9_same 47 = .ok (.iadd, 1) := by decide +kernel
theorem dX9_same_48 : decode cX9_same 48 = .ok (.istore_n 2, 1) := by decide +kernel
theorem dX9_same_49 : decode cX9_same 49 = .ok (.iinc 3 1, 3) := by decide +kernel
theorem dX9_same_52 : decode cX9_same 52 = .ok (.goto (-39), 3) := by decide +kernel
theorem dX9_same_55 : decode cX9_same 55 = .ok (.iload_n 2, 1) := by decide +kernel
theorem dX9_same_56 : decode cX9_same 56 = .ok (.ireturn, 1) := by decide +kernel
set_option maxRecDepth 20000 in
theorem ggX9_isTurnedAhead_X9_cells : GoodIn wsX9_isTurnedAhead wsX9_cells := goodIn_r _ [7, 8, 9, 10, 11, 12, 13, 14, 15, 16, 17, 18, 19, 20, 21, 22, 23, 24, 25, 26, 27, 28, 29, 30, 31, 32, 33, 34, 35] (by decide +kernel) (by decide +kernel)
set_option maxRecDepth 20000 in
theorem gX9_isTurnedAhead_X9_cells : GoodIn wsX9_isTurnedAhead (wsV RX9 97 RX9 yX9_cells wsX9_cells) := goodIn_app (goodIn_of _ (by decide +kernel)) ggX9_isTurnedAhead_X9_cells
theorem dX9_isTurnedAhead_0 : decode cX9_isTurnedAhead 0 = .ok (.iconst 0, 1) := by decide +kernel
theorem dX9_isTurnedAhead_1 : decode cX9_isTurnedAhead 1 = .ok (.istore_n 1, 1) := by decide +kernel
theorem dX9_isTurnedAhead_2 : decode cX9_isTurnedAhead 2 = .ok (.iload_n 1, 1) := by decide +kernel
theorem dX9_isTurnedAhead_3 : decode cX9_isTurnedAhead 3 = .ok (.aload_n 0, 1) := by decide +kernel
theorem dX9_isTurnedAhead_4 : decode cX9_isTurnedAhead 4 = .ok (.invokevirtual 97, 3) := by decide +kernel
theorem dX9_isTurnedAhead_7 : decode cX9_isTurnedAhead 7 = .ok (.if_icmp .ge 45, 3) := by decide +kernel
theorem dX9_isTurnedAhead_10 : decode cX9_isTurnedAhead 10 = .ok (.aload_n 0, 1) := by decide +kernel
theorem dX9_isTurnedAhead_11 : decode cX9_isTurnedAhead 11 = .ok (.getfield 75, 3) := by decide +kernel
theorem dX9_isTurnedAhead_14 : decode cX9_isTurnedAhead 14 = .ok (.iload_n 1, 1) := by decide +kernel
theorem dX9_isTurnedAhead_15 : decode cX9_isTurnedAhead 15 = .ok (.iaload, 1) := by decide +kernel
theorem dX9_isTurnedAhead_16 : decode cX9_isTurnedAhead 16 = .ok (.aload_n 0, 1) := by decide +kernel
theorem dX9_isTurnedAhead_17 : decode cX9_isTurnedAhead 17 = .ok (.getfield 78, 3) := by decide +kernel
theorem dX9_isTurnedAhead_20 : decode cX9_isTurnedAhead 20 = .ok (.iload_n 1, 1) := by decide +kernel
theorem dX9_isTurnedAhead_21 : decode cX9_isTurnedAhead 21 = .ok (.iaload, 1) := by decide +kernel
theorem dX9_isTurnedAhead_22 : decode cX9_isTurnedAhead 22 = .ok (.if_icmp .eq 24, 3) := by decide +kernel
theorem dX9_isTurnedAhead_25 : decode cX9_isTurnedAhead 25 = .ok (.aload_n 0, 1) := by decide +kernel
theorem dX9_isTurnedAhead_26 : decode cX9_isTurnedAhead 26 = .ok (.getfield 75, 3) := by decide +kernel
theorem dX9_isTurnedAhead_29 : decode cX9_isTurnedAhead 29 = .ok (.iload_n 1, 1) := by decide +kernel
theorem dX9_isTurnedAhead_30 : decode cX9_isTurnedAhead 30 = .ok (.iaload, 1) := by decide +kernel
theorem dX9_isTurnedAhead_31 : decode cX9_isTurnedAhead 31 = .ok (.aload_n 0, 1) := by decide +kernel
theorem dX9_isTurnedAhead_32 : decode cX9_isTurnedAhead 32 = .ok (.getfield 78, 3) := by decide +kernel
theorem dX9_isTurnedAhead_35 : decode cX9_isTurnedAhead 35 = .ok (.iload_n 1, 1) := by decide +kernel
theorem dX9_isTurnedAhead_36 : decode cX9_isTurnedAhead 36 = .ok (.iaload, 1) := by decide +kernel
theorem dX9_isTurnedAhead_37 : decode cX9_isTurnedAhead 37 = .ok (.if_icmp .ge 7, 3) := by decide +kernel
theorem dX9_isTurnedAhead_40 : decode cX9_isTurnedAhead 40 = .ok (.iconst 1, 1) := by decide +kernel
theorem dX9_isTurnedAhead_41 : decode cX9_isTurnedAhead 41 = .ok (.goto 4, 3) := by decide +kernel
theorem dX9_isTurnedAhead_44 : decode cX9_isTurnedAhead 44 = .ok (.iconst 0, 1) := by decide +kernel
theorem dX9_isTurnedAhead_45 : decode cX9_isTurnedAhead 45 = .ok (.ireturn, 1) := by decide +kernel
theorem dX9_isTurnedAhead_46 : decode cX9_isTurnedAhead 46 = .ok (.iinc 1 1, 3) := by decide +kernel
theorem dX9_isTurnedAhead_49 : decode cX9_isTurnedAhead 49 = .ok (.goto (-47), 3) := by decide +kernel
theorem dX9_isTurnedAhead_52 : decode cX9_isTurnedAhead 52 = .ok (.iconst 0, 1) := by decide +kernel
theorem dX9_isTurnedAhead_53 : decode cX9_isTurnedAhead 53 = .ok (.ireturn, 1) := by decide +kernel
set_option maxRecDepth 20000 in
theorem ggX9_least_X9_isSlot : GoodIn wsX9_least wsX9_isSlot := goodIn_r _ [7, 8, 9, 10, 6, 11] (by decide +kernel) (by decide +kernel)
set_option maxRecDepth 20000 in
theorem gX9_least_X9_isSlot : GoodIn wsX9_least (va_wsS RX9 103 yX9_isSlot wsX9_isSlot) := goodIn_app (goodIn_of _ (by decide +kernel)) ggX9_least_X9_isSlot
set_option maxRecDepth 20000 in
theorem ggX9_least_X9_mayTurn : GoodIn wsX9_least wsX9_mayTurn := goodIn_r _ [15, 16, 17, 34, 35, 36, 37, 38, 39, 40, 41, 42, 43, 44, 45, 46, 47, 48, 49, 50, 51, 52, 53, 54, 55, 56, 57, 58, 59] (by decide +kernel) (by decide +kernel)
set_option maxRecDepth 20000 in
theorem gX9_least_X9_mayTurn : GoodIn wsX9_least (wsV RX9 203 RX9 yX9_mayTurn wsX9_mayTurn) := goodIn_app (goodIn_of _ (by decide +kernel)) ggX9_least_X9_mayTurn
set_option maxRecDepth 20000 in
theorem ggX9_least_X9_layTurned : GoodIn wsX9_least wsX9_layTurned := goodIn_r _ [21, 2, 3, 22, 23, 24, 6, 25, 16, 17, 26, 27, 28, 29, 34, 35, 36, 37, 38, 39, 40, 41, 42, 43, 44, 45, 46, 47, 48, 49, 50, 51, 52, 53, 54, 55, 56, 57, 58, 59] (by decide +kernel) (by decide +kernel)
set_option maxRecDepth 20000 in
theorem gX9_least_X9_layTurned : GoodIn wsX9_least (wsV RX9 206 RX9 yX9_layTurned wsX9_layTurned) := goodIn_app (goodIn_of _ (by decide +kernel)) ggX9_least_X9_layTurned
set_option maxRecDepth 20000 in
theorem ggX9_least_X9_isTurnedAhead : GoodIn wsX9_least wsX9_isTurnedAhead := goodIn_r _ [33, 2, 1, 22, 23, 24, 6, 25, 16, 17, 34, 35, 36, 37, 38, 39, 40, 41, 42, 43, 44, 45, 46, 47, 48, 49, 50, 51, 52, 53, 54, 55, 56, 57, 58, 59] (by decide +kernel) (by decide +kernel)
set_option maxRecDepth 20000 in
theorem gX9_least_X9_isTurnedAhead : GoodIn wsX9_least (wsV RX9 212 RX9 yX9_isTurnedAhead wsX9_isTurnedAhead) := goodIn_app (goodIn_of _ (by decide +kernel)) ggX9_least_X9_isTurnedAhead
set_option maxRecDepth 20000 in
theorem ggX9_least_X9_cells : GoodIn wsX9_least wsX9_cells := goodIn_r _ [25, 16, 17, 34, 35, 36, 37, 38, 39, 40, 41, 42, 43, 44, 45, 46, 47, 48, 49, 50, 51, 52, 53, 54, 55, 56, 57, 58, 59] (by decide +kernel) (by decide +kernel)
set_option maxRecDepth 20000 in
theorem gX9_least_X9_cells : GoodIn wsX9_least (wsV RX9 97 RX9 yX9_cells wsX9_cells) := goodIn_app (goodIn_of _ (by decide +kernel)) ggX9_least_X9_cells
theorem dX9_least_0 : decode cX9_least 0 = .ok (.iload_n 1, 1) := by decide +kernel
theorem dX9_least_1 : decode cX9_least 1 = .ok (.invokestatic 103, 3) := by decide +kernel
theorem dX9_least_4 : decode cX9_least 4 = .ok (.ifCond .ne 5, 3) := by decide +kernel
theorem dX9_least_7 : decode cX9_least 7 = .ok (.iconst (-1), 1) := by decide +kernel
theorem dX9_least_8 : decode cX9_least 8 = .ok (.ireturn, 1) := by decide +kernel
theorem dX9_least_9 : decode cX9_least 9 = .ok (.bipush (-9), 2) := by decide +kernel
theorem dX9_least_11 : decode cX9_least 11 = .ok (.istore_n 2, 1) := by decide +kernel
theorem dX9_least_12 : decode cX9_least 12 = .ok (.iconst 0, 1) := by decide +kernel
theorem dX9_least_13 : decode cX9_least 13 = .ok (.istore_n 3, 1) := by decide +kernel
theorem dX9_least_14 : decode cX9_least 14 = .ok (.iload_n 3, 1) := by decide +kernel
theorem dX9_least_15 : decode cX9_least 15 = .ok (.bipush 8, 2) := by decide +kernel
theorem dX9_least_17 : decode cX9_least 17 = .ok (.if_icmp .ge 70, 3) := by decide +kernel
theorem dX9_least_20 : decode cX9_least 20 = .ok (.aload_n 0, 1) := by decide +kernel
theorem dX9_least_21 : decode cX9_least 21 = .ok (.iload_n 3, 1) := by decide +kernel
theorem dX9_least_22 : decode cX9_least 22 = .ok (.invokevirtual 203, 3) := by decide +kernel
theorem dX9_least_25 : decode cX9_least 25 = .ok (.ifCond .eq 56, 3) := by decide +kernel
theorem dX9_least_28 : decode cX9_least 28 = .ok (.aload_n 0, 1) := by decide +kernel
theorem dX9_least_29 : decode cX9_least 29 = .ok (.iload_n 1, 1) := by decide +kernel
theorem dX9_least_30 : decode cX9_least 30 = .ok (.iload_n 3, 1) := by decide +kernel
theorem dX9_least_31 : decode cX9_least 31 = .ok (.invokevirtual 206, 3) := by decide +kernel
theorem dX9_least_34 : decode cX9_least 34 = .ok (.iload_n 2, 1) := by decide +kernel
theorem dX9_least_35 : decode cX9_least 35 = .ok (.bipush (-9), 2) := by decide +kernel
theorem dX9_least_37 : decode cX9_least 37 = .ok (.if_icmp .eq 10, 3) := by decide +kernel
theorem dX9_least_40 : decode cX9_least 40 = .ok (.aload_n 0, 1) := by decide +kernel
theorem dX9_least_41 : decode cX9_least 41 = .ok (.invokevirtual 212, 3) := by decide +kernel
theorem dX9_least_44 : decode cX9_least 44 = .ok (.ifCond .eq 37, 3) := by decide +kernel
theorem dX9_least_47 : decode cX9_least 47 = .ok (.iload_n 3, 1) := by decide +kernel
theorem dX9_least_48 : decode cX9_least 48 = .ok (.istore_n 2, 1) := by decide +kernel
theorem dX9_least_49 : decode cX9_least 49 = .ok (.iconst 0, 1) := by decide +kernel
theorem dX9_least_50 : decode cX9_least 50 = .ok (.istore 4, 2) := by decide +kernel
theorem dX9_least_52 : decode cX9_least 52 = .ok (.iload 4, 2) := by decide +kernel
theorem dX9_least_54 : decode cX9_least 54 = .ok (.aload_n 0, 1) := by decide +kernel
theorem dX9_least_55 : decode cX9_least 55 = .ok (.invokevirtual 97, 3) := by decide +kernel
theorem dX9_least_58 : decode cX9_least 58 = .ok (.if_icmp .ge 23, 3) := by decide +kernel
theorem dX9_least_61 : decode cX9_least 61 = .ok (.aload_n 0, 1) := by decide +kernel
theorem dX9_least_62 : decode cX9_least 62 = .ok (.getfield 78, 3) := by decide +kernel
theorem dX9_least_65 : decode cX9_least 65 = .ok (.iload 4, 2) := by decide +kernel
theorem dX9_least_67 : decode cX9_least 67 = .ok (.aload_n 0, 1) := by decide +kernel
theorem dX9_least_68 : decode cX9_least 68 = .ok (.getfield 75, 3) := by decide +kernel
theorem dX9_least_71 : decode cX9_least 71 = .ok (.iload 4, 2) := by decide +kernel
theorem dX9_least_73 : decode cX9_least 73 = .ok (.iaload, 1) := by decide +kernel
theorem dX9_least_74 : decode cX9_least 74 = .ok (.iastore, 1) := by decide +kernel
theorem dX9_least_75 : decode cX9_least 75 = .ok (.iinc 4 1, 3) := by decide +kernel
theorem dX9_least_78 : decode cX9_least 78 = .ok (.goto (-26), 3) := by decide +kernel
theorem dX9_least_81 : decode cX9_least 81 = .ok (.iinc 3 1, 3) := by decide +kernel
theorem dX9_least_84 : decode cX9_least 84 = .ok (.goto (-70), 3) := by decide +kernel
theorem dX9_least_87 : decode cX9_least 87 = .ok (.iconst 0, 1) := by decide +kernel
theorem dX9_least_88 : decode cX9_least 88 = .ok (.istore_n 3, 1) := by decide +kernel
theorem dX9_least_89 : decode cX9_least 89 = .ok (.iload_n 3, 1) := by decide +kernel
theorem dX9_least_90 : decode cX9_least 90 = .ok (.aload_n 0, 1) := by decide +kernel
theorem dX9_least_91 : decode cX9_least 91 = .ok (.invokevirtual 97, 3) := by decide +kernel
theorem dX9_least_94 : decode cX9_least 94 = .ok (.if_icmp .ge 26, 3) := by decide +kernel
theorem dX9_least_97 : decode cX9_least 97 = .ok (.aload_n 0, 1) := by decide +kernel
theorem dX9_least_98 : decode cX9_least 98 = .ok (.getfield 7, 3) := by decide +kernel
theorem dX9_least_101 : decode cX9_least 101 = .ok (.bipush 25, 2) := by decide +kernel
theorem dX9_least_103 : decode cX9_least 103 = .ok (.iload_n 1, 1) := by decide +kernel
theorem dX9_least_104 : decode cX9_least 104 = .ok (.imul, 1) := by decide +kernel
theorem dX9_least_105 : decode cX9_least 105 = .ok (.iload_n 3, 1) := by decide +kernel
theorem dX9_least_106 : decode cX9_least 106 = .ok (.iadd, 1) := by decide +kernel
theorem dX9_least_107 : decode cX9_least 107 = .ok (.aload_n 0, 1) := by decide +kernel
theorem dX9_least_108 : decode cX9_least 108 = .ok (.getfield 78, 3) := by decide +kernel
theorem dX9_least_111 : decode cX9_least 111 = .ok (.iload_n 3, 1) := by decide +kernel
theorem dX9_least_112 : decode cX9_least 112 = .ok (.iaload, 1) := by decide +kernel
theorem dX9_least_113 : decode cX9_least 113 = .ok (.iastore, 1) := by decide +kernel
theorem dX9_least_114 : decode cX9_least 114 = .ok (.iinc 3 1, 3) := by decide +kernel
theorem dX9_least_117 : decode cX9_least 117 = .ok (.goto (-28), 3) := by decide +kernel
theorem dX9_least_120 : decode cX9_least 120 = .ok (.iload_n 2, 1) := by decide +kernel
theorem dX9_least_121 : decode cX9_least 121 = .ok (.ireturn, 1) := by decide +kernel
set_option maxRecDepth 20000 in
theorem ggX9_about_X9_cells : GoodIn wsX9_about wsX9_cells := goodIn_r _ [10, 1, 3, 11, 12, 13, 14, 15, 16, 17, 18, 19, 20, 21, 22, 23, 24, 25, 26, 27, 28, 29, 30, 31, 32, 33, 34, 35, 36] (by decide +kernel) (by decide +kernel)
set_option maxRecDepth 20000 in
theorem gX9_about_X9_cells : GoodIn wsX9_about (wsV RX9 97 RX9 yX9_cells wsX9_cells) := goodIn_app (goodIn_of _ (by decide +kernel)) ggX9_about_X9_cells
theorem dX9_about_0 : decode cX9_about 0 = .ok (.iconst 0, 1) := by decide +kernel
theorem dX9_about_1 : decode cX9_about 1 = .ok (.istore_n 2, 1) := by decide +kernel
theorem dX9_about_2 : decode cX9_about 2 = .ok (.iconst 0, 1) := by decide +kernel
theorem dX9_about_3 : decode cX9_about 3 = .ok (.istore_n 3, 1) := by decide +kernel
theorem dX9_about_4 : decode cX9_about 4 = .ok (.iconst 0, 1) := by decide +kernel
theorem dX9_about_5 : decode cX9_about 5 = .ok (.istore 4, 2) := by decide +kernel
theorem dX9_about_7 : decode cX9_about 7 = .ok (.iload 4, 2) := by decide +kernel
theorem dX9_about_9 : decode cX9_about 9 = .ok (.iconst 5, 1) := by decide +kernel
theorem dX9_about_10 : decode cX9_about 10 = .ok (.if_icmp .ge 65, 3) := by decide +kernel
theorem dX9_about_13 : decode cX9_about 13 = .ok (.iload_n 2, 1) := by decide +kernel
theorem dX9_about_14 : decode cX9_about 14 = .ok (.iload 4, 2) := by decide +kernel
theorem dX9_about_16 : decode cX9_about 16 = .ok (.aload_n 0, 1) := by decide +kernel
theorem dX9_about_17 : decode cX9_about 17 = .ok (.getfield 85, 3) := by decide +kernel
theorem dX9_about_20 : decode cX9_about 20 = .ok (.if_icmp .ge 19, 3) := by decide +kernel
theorem dX9_about_23 : decode cX9_about 23 = .ok (.aload_n 0, 1) := by decide +kernel
theorem dX9_about_24 : decode cX9_about 24 = .ok (.getfield 13, 3) := by decide +kernel
theorem dX9_about_27 : decode cX9_about 27 = .ok (.iload 4, 2) := by decide +kernel
theorem dX9_about_29 : decode cX9_about 29 = .ok (.iaload, 1) := by decide +kernel
theorem dX9_about_30 : decode cX9_about 30 = .ok (.bipush (-9), 2) := by decide +kernel
theorem dX9_about_32 : decode cX9_about 32 = .ok (.if_icmp .eq 7, 3) := by decide +kernel
theorem dX9_about_35 : decode cX9_about 35 = .ok (.iconst 1, 1) := by decide +kernel
theorem dX9_about_36 : decode cX9_about 36 = .ok (.goto 4, 3) := by decide +kernel
theorem dX9_about_39 : decode cX9_about 39 = .ok (.iconst 0, 1) := by decide +kernel
theorem dX9_about_40 : decode cX9_about 40 = .ok (.iload 4, 2) := by decide +kernel
theorem dX9_about_42 : decode cX9_about 42 = .ok (.aload_n 0, 1) := by decide +kernel
theorem dX9_about_43 : decode cX9_about 43 = .ok (.getfield 88, 3) := by decide +kernel
theorem dX9_about_46 : decode cX9_about 46 = .ok (.if_icmp .ge 19, 3) := by decide +kernel
theorem dX9_about_49 : decode cX9_about 49 = .ok (.aload_n 0, 1) := by decide +kernel
theorem dX9_about_50 : decode cX9_about 50 = .ok (.getfield 16, 3) := by decide +kernel
theorem dX9_about_53 : decode cX9_about 53 = .ok (.iload 4, 2) := by decide +kernel
theorem dX9_about_55 : decode cX9_about 55 = .ok (.iaload, 1) := by decide +kernel
theorem dX9_about_56 : decode cX9_about 56 = .ok (.bipush (-9), 2) := by decide +kernel
theorem dX9_about_58 : decode cX9_about 58 = .ok (.if_icmp .eq 7, 3) := by decide +kernel
theorem dX9_about_61 : decode cX9_about 61 = .ok (.iconst 1, 1) := by decide +kernel
theorem dX9_about_62 : decode cX9_about 62 = .ok (.goto 4, 3) := by decide +kernel
theorem dX9_about_65 : decode cX9_about 65 = .ok (.iconst 0, 1) := by decide +kernel
theorem dX9_about_66 : decode cX9_about 66 = .ok (.iadd, 1) := by decide +kernel
theorem dX9_about_67 : decode cX9_about 67 = .ok (.iadd, 1) := by decide +kernel
theorem dX9_about_68 : decode cX9_about 68 = .ok (.istore_n 2, 1) := by decide +kernel
theorem dX9_about_69 : decode cX9_about 69 = .ok (.iinc 4 1, 3) := by decide +kernel
theorem dX9_about_72 : decode cX9_about 72 = .ok (.goto (-65), 3) := by decide +kernel
theorem dX9_about_75 : decode cX9_about 75 = .ok (.iconst 0, 1) := by decide +kernel
theorem dX9_about_76 : decode cX9_about 76 = .ok (.istore 4, 2) := by decide +kernel
theorem dX9_about_78 : decode cX9_about 78 = .ok (.iload 4, 2) := by decide +kernel
theorem dX9_about_80 : decode cX9_about 80 = .ok (.aload_n 0, 1) := by decide +kernel
theorem dX9_about_81 : decode cX9_about 81 = .ok (.invokevirtual 97, 3) := by decide +kernel
theorem dX9_about_84 : decode cX9_about 84 = .ok (.if_icmp .ge 29, 3) := by decide +kernel
theorem dX9_about_87 : decode cX9_about 87 = .ok (.iload_n 3, 1) := by decide +kernel
theorem dX9_about_88 : decode cX9_about 88 = .ok (.aload_n 0, 1) := by decide +kernel
theorem dX9_about_89 : decode cX9_about 89 = .ok (.getfield 19, 3) := by decide +kernel
theorem dX9_about_92 : decode cX9_about 92 = .ok (.iload 4, 2) := by decide +kernel
theorem dX9_about_94 : decode cX9_about 94 = .ok (.iaload, 1) := by decide +kernel
theorem dX9_about_95 : decode cX9_about 95 = .ok (.bipush (-9), 2) := by decide +kernel
theorem dX9_about_97 : decode cX9_about 97 = .ok (.if_icmp .eq 7, 3) := by decide +kernel
theorem dX9_about_100 : decode cX9_about 100 = .ok (.iconst 1, 1) := by decide +kernel
theorem dX9_about_101 : decode cX9_about 101 = .ok (.goto 4, 3) := by decide +kernel
theorem dX9_about_104 : decode cX9_about 104 = .ok (.iconst 0, 1) := by decide +kernel
theorem dX9_about_105 : decode cX9_about 105 = .ok (.iadd, 1) := by decide +kernel
theorem dX9_about_106 : decode cX9_about 106 = .ok (.istore_n 3, 1) := by decide +kernel
theorem dX9_about_107 : decode cX9_about 107 = .ok (.iinc 4 1, 3) := by decide +kernel
theorem dX9_about_110 : decode cX9_about 110 = .ok (.goto (-32), 3) := by decide +kernel
theorem dX9_about_113 : decode cX9_about 113 = .ok (.iload_n 1, 1) := by decide +kernel
theorem dX9_about_114 : decode cX9_about 114 = .ok (.tableswitch 53 0 4 #[34, 39, 44, 46, 48], 34) := by decide +kernel
theorem dX9_about_148 : decode cX9_about 148 = .ok (.aload_n 0, 1) := by decide +kernel
theorem dX9_about_149 : decode cX9_about 149 = .ok (.getfield 85, 3) := by decide +kernel
theorem dX9_about_152 : decode cX9_about 152 = .ok (.ireturn, 1) := by decide +kernel
theorem dX9_about_153 : decode cX9_about 153 = .ok (.aload_n 0, 1) := by decide +kernel
theorem dX9_about_154 : decode cX9_about 154 = .ok (.getfield 88, 3) := by decide +kernel
theorem dX9_about_157 : decode cX9_about 157 = .ok (.ireturn, 1) := by decide +kernel
theorem dX9_about_158 : decode cX9_about 158 = .ok (.iload_n 2, 1) := by decide +kernel
theorem dX9_about_159 : decode cX9_about 159 = .ok (.ireturn, 1) := by decide +kernel
theorem dX9_about_160 : decode cX9_about 160 = .ok (.iload_n 3, 1) := by decide +kernel
theorem dX9_about_161 : decode cX9_about 161 = .ok (.ireturn, 1) := by decide +kernel
theorem dX9_about_162 : decode cX9_about 162 = .ok (.aload_n 0, 1) := by decide +kernel
theorem dX9_about_163 : decode cX9_about 163 = .ok (.invokevirtual 97, 3) := by decide +kernel
theorem dX9_about_166 : decode cX9_about 166 = .ok (.ireturn, 1) := by decide +kernel
theorem dX9_about_167 : decode cX9_about 167 = .ok (.bipush (-2), 2) := by decide +kernel
theorem dX9_about_169 : decode cX9_about 169 = .ok (.ireturn, 1) := by decide +kernel
