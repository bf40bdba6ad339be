theorem dX0_init_0 : decode cX0_init 0 = .ok (.aload_n 0, 1) := by decide +kernel
theorem dX0_init_1 : decode cX0_init 1 = .ok (.invokespecial 3, 3) := by decide +kernel
theorem dX0_init_4 : decode cX0_init 4 = .ok (.aload_n 0, 1) := by decide +kernel
theorem dX0_init_5 : decode cX0_init 5 = .ok (.bipush 25, 2) := by decide +kernel
theorem dX0_init_7 : decode cX0_init 7 = .ok (.newarray .int, 2) := by decide +kernel
theorem dX0_init_9 : decode cX0_init 9 = .ok (.putfield 9, 3) := by decide +kernel
theorem dX0_init_12 : decode cX0_init 12 = .ok (.aload_n 0, 1) := by decide +kernel
theorem dX0_init_13 : decode cX0_init 13 = .ok (.bipush 100, 2) := by decide +kernel
theorem dX0_init_15 : decode cX0_init 15 = .ok (.newarray .int, 2) := by decide +kernel
theorem dX0_init_17 : decode cX0_init 17 = .ok (.putfield 15, 3) := by decide +kernel
theorem dX0_init_20 : decode cX0_init 20 = .ok (.aload_n 0, 1) := by decide +kernel
theorem dX0_init_21 : decode cX0_init 21 = .ok (.bipush 25, 2) := by decide +kernel
theorem dX0_init_23 : decode cX0_init 23 = .ok (.newarray .int, 2) := by decide +kernel
theorem dX0_init_25 : decode cX0_init 25 = .ok (.putfield 18, 3) := by decide +kernel
theorem dX0_init_28 : decode cX0_init 28 = .ok (.aload_n 0, 1) := by decide +kernel
theorem dX0_init_29 : decode cX0_init 29 = .ok (.bipush 25, 2) := by decide +kernel
theorem dX0_init_31 : decode cX0_init 31 = .ok (.newarray .int, 2) := by decide +kernel
theorem dX0_init_33 : decode cX0_init 33 = .ok (.putfield 21, 3) := by decide +kernel
theorem dX0_init_36 : decode cX0_init 36 = .ok (.aload_n 0, 1) := by decide +kernel
theorem dX0_init_37 : decode cX0_init 37 = .ok (.bipush 25, 2) := by decide +kernel
theorem dX0_init_39 : decode cX0_init 39 = .ok (.newarray .int, 2) := by decide +kernel
theorem dX0_init_41 : decode cX0_init 41 = .ok (.putfield 24, 3) := by decide +kernel
theorem dX0_init_44 : decode cX0_init 44 = .ok (.aload_n 0, 1) := by decide +kernel
theorem dX0_init_45 : decode cX0_init 45 = .ok (.aload_n 1, 1) := by decide +kernel
theorem dX0_init_46 : decode cX0_init 46 = .ok (.putfield 27, 3) := by decide +kernel
theorem dX0_init_49 : decode cX0_init 49 = .ok (.return_, 1) := by decide +kernel
set_option maxRecDepth 20000 in
theorem ggX0_leastSteps_X2_total : GoodIn wsX0_leastSteps wsX2_total := goodIn_r _ [12, 13, 14, 15, 11, 16, 17, 18, 70, 71, 72, 73, 74] (by decide +kernel) (by decide +kernel)
set_option maxRecDepth 20000 in
theorem gX0_leastSteps_X2_total : GoodIn wsX0_leastSteps (wsV RX0 31 RX2 yX2_total wsX2_total) := goodIn_app (goodIn_of _ (by decide +kernel)) ggX0_leastSteps_X2_total
set_option maxRecDepth 20000 in
theorem ggX0_leastSteps_J7_fill_53178 : GoodIn wsX0_leastSteps wsJ7_fill_53178 := goodIn_r _ [22] (by decide +kernel) (by decide +kernel)
set_option maxRecDepth 20000 in
theorem gX0_leastSteps_J7_fill_53178 : GoodIn wsX0_leastSteps (va_wsS RX0 37 yJ7_fill_53178 wsJ7_fill_53178) := goodIn_app (goodIn_of _ (by decide +kernel)) ggX0_leastSteps_J7_fill_53178
set_option maxRecDepth 20000 in
theorem ggX0_leastSteps_X2_cells : GoodIn wsX0_leastSteps wsX2_cells := goodIn_r _ [16, 17, 18, 70, 71, 72, 73, 74] (by decide +kernel) (by decide +kernel)
set_option maxRecDepth 20000 in
theorem gX0_leastSteps_X2_cells : GoodIn wsX0_leastSteps (wsV RX0 43 RX2 yX2_cells wsX2_cells) := goodIn_app (goodIn_of _ (by decide +kernel)) ggX0_leastSteps_X2_cells
set_option maxRecDepth 20000 in
theorem ggX0_leastSteps_X0_carryNearest : GoodIn wsX0_leastSteps wsX0_carryNearest := goodIn_r _ [28, 3, 29, 30, 31, 27, 32, 1, 33, 34, 23, 14, 15, 11, 16, 17, 18, 35, 36, 37, 38, 39, 40, 41, 42, 43, 44, 45, 46, 47, 48, 2, 49, 50, 51, 52, 53, 54, 55, 56, 57, 58, 6, 59, 60, 61, 62, 63, 64, 65, 66, 67, 68, 69, 70, 71, 72, 73, 74] (by decide +kernel) (by decide +kernel)
set_option maxRecDepth 20000 in
theorem gX0_leastSteps_X0_carryNearest : GoodIn wsX0_leastSteps (wsV RX0 53 RX0 yX0_carryNearest wsX0_carryNearest) := goodIn_app (goodIn_of _ (by decide +kernel)) ggX0_leastSteps_X0_carryNearest
theorem dX0_leastSteps_0 : decode cX0_leastSteps 0 = .ok (.aload_n 0, 1) := by decide +kernel
theorem dX0_leastSteps_1 : decode cX0_leastSteps 1 = .ok (.getfield 27, 3) := by decide +kernel
theorem dX0_leastSteps_4 : decode cX0_leastSteps 4 = .ok (.aload_n 1, 1) := by decide +kernel
theorem dX0_leastSteps_5 : decode cX0_leastSteps 5 = .ok (.invokevirtual 31, 3) := by decide +kernel
theorem dX0_leastSteps_8 : decode cX0_leastSteps 8 = .ok (.aload_n 0, 1) := by decide +kernel
theorem dX0_leastSteps_9 : decode cX0_leastSteps 9 = .ok (.getfield 27, 3) := by decide +kernel
theorem dX0_leastSteps_12 : decode cX0_leastSteps 12 = .ok (.aload_n 2, 1) := by decide +kernel
theorem dX0_leastSteps_13 : decode cX0_leastSteps 13 = .ok (.invokevirtual 31, 3) := by decide +kernel
theorem dX0_leastSteps_16 : decode cX0_leastSteps 16 = .ok (.if_icmp .eq 6, 3) := by decide +kernel
theorem dX0_leastSteps_19 : decode cX0_leastSteps 19 = .ok (.bipush (-9), 2) := by decide +kernel
theorem dX0_leastSteps_21 : decode cX0_leastSteps 21 = .ok (.ireturn, 1) := by decide +kernel
theorem dX0_leastSteps_22 : decode cX0_leastSteps 22 = .ok (.aload_n 0, 1) := by decide +kernel
theorem dX0_leastSteps_23 : decode cX0_leastSteps 23 = .ok (.getfield 15, 3) := by decide +kernel
theorem dX0_leastSteps_26 : decode cX0_leastSteps 26 = .ok (.iconst 0, 1) := by decide +kernel
theorem dX0_leastSteps_27 : decode cX0_leastSteps 27 = .ok (.invokestatic 37, 3) := by decide +kernel
theorem dX0_leastSteps_30 : decode cX0_leastSteps 30 = .ok (.iconst 0, 1) := by decide +kernel
theorem dX0_leastSteps_31 : decode cX0_leastSteps 31 = .ok (.istore_n 3, 1) := by decide +kernel
theorem dX0_leastSteps_32 : decode cX0_leastSteps 32 = .ok (.iconst 0, 1) := by decide +kernel
theorem dX0_leastSteps_33 : decode cX0_leastSteps 33 = .ok (.istore 4, 2) := by decide +kernel
theorem dX0_leastSteps_35 : decode cX0_leastSteps 35 = .ok (.iload 4, 2) := by decide +kernel
theorem dX0_leastSteps_37 : decode cX0_leastSteps 37 = .ok (.aload_n 0, 1) := by decide +kernel
theorem dX0_leastSteps_38 : decode cX0_leastSteps 38 = .ok (.getfield 27, 3) := by decide +kernel
theorem dX0_leastSteps_41 : decode cX0_leastSteps 41 = .ok (.invokevirtual 43, 3) := by decide +kernel
theorem dX0_leastSteps_44 : decode cX0_leastSteps 44 = .ok (.if_icmp .ge 39, 3) := by decide +kernel
theorem dX0_leastSteps_47 : decode cX0_leastSteps 47 = .ok (.aload_n 0, 1) := by decide +kernel
theorem dX0_leastSteps_48 : decode cX0_leastSteps 48 = .ok (.getfield 9, 3) := by decide +kernel
theorem dX0_leastSteps_51 : decode cX0_leastSteps 51 = .ok (.iload 4, 2) := by decide +kernel
theorem dX0_leastSteps_53 : decode cX0_leastSteps 53 = .ok (.aload_n 1, 1) := by decide +kernel
theorem dX0_leastSteps_54 : decode cX0_leastSteps 54 = .ok (.iload 4, 2) := by decide +kernel
theorem dX0_leastSteps_56 : decode cX0_leastSteps 56 = .ok (.iaload, 1) := by decide +kernel
theorem dX0_leastSteps_57 : decode cX0_leastSteps 57 = .ok (.aload_n 2, 1) := by decide +kernel
theorem dX0_leastSteps_58 : decode cX0_leastSteps 58 = .ok (.iload 4, 2) := by decide +kernel
theorem dX0_leastSteps_60 : decode cX0_leastSteps 60 = .ok (.iaload, 1) := by decide +kernel
theorem dX0_leastSteps_61 : decode cX0_leastSteps 61 = .ok (.isub, 1) := by decide +kernel
theorem dX0_leastSteps_62 : decode cX0_leastSteps 62 = .ok (.iastore, 1) := by decide +kernel
theorem dX0_leastSteps_63 : decode cX0_leastSteps 63 = .ok (.iload_n 3, 1) := by decide +kernel
theorem dX0_leastSteps_64 : decode cX0_leastSteps 64 = .ok (.iconst 0, 1) := by decide +kernel
theorem dX0_leastSteps_65 : decode cX0_leastSteps 65 = .ok (.aload_n 0, 1) := by decide +kernel
theorem dX0_leastSteps_66 : decode cX0_leastSteps 66 = .ok (.getfield 9, 3) := by decide +kernel
theorem dX0_leastSteps_69 : decode cX0_leastSteps 69 = .ok (.iload 4, 2) := by decide +kernel
theorem dX0_leastSteps_71 : decode cX0_leastSteps 71 = .ok (.iaload, 1) := by decide +kernel
theorem dX0_leastSteps_72 : decode cX0_leastSteps 72 = .ok (.invokestatic 47, 3) := by decide +kernel
theorem dX0_leastSteps_75 : decode cX0_leastSteps 75 = .ok (.iadd, 1) := by decide +kernel
theorem dX0_leastSteps_76 : decode cX0_leastSteps 76 = .ok (.istore_n 3, 1) := by decide +kernel
theorem dX0_leastSteps_77 : decode cX0_leastSteps 77 = .ok (.iinc 4 1, 3) := by decide +kernel
theorem dX0_leastSteps_80 : decode cX0_leastSteps 80 = .ok (.goto (-45), 3) := by decide +kernel
theorem dX0_leastSteps_83 : decode cX0_leastSteps 83 = .ok (.iconst 0, 1) := by decide +kernel
theorem dX0_leastSteps_84 : decode cX0_leastSteps 84 = .ok (.istore 4, 2) := by decide +kernel
theorem dX0_leastSteps_86 : decode cX0_leastSteps 86 = .ok (.iload 4, 2) := by decide +kernel
theorem dX0_leastSteps_88 : decode cX0_leastSteps 88 = .ok (.bipush 100, 2) := by decide +kernel
theorem dX0_leastSteps_90 : decode cX0_leastSteps 90 = .ok (.if_icmp .ge 20, 3) := by decide +kernel
theorem dX0_leastSteps_93 : decode cX0_leastSteps 93 = .ok (.iload_n 3, 1) := by decide +kernel
theorem dX0_leastSteps_94 : decode cX0_leastSteps 94 = .ok (.ifCond .le 16, 3) := by decide +kernel
theorem dX0_leastSteps_97 : decode cX0_leastSteps 97 = .ok (.iload_n 3, 1) := by decide +kernel
theorem dX0_leastSteps_98 : decode cX0_leastSteps 98 = .ok (.aload_n 0, 1) := by decide +kernel
theorem dX0_leastSteps_99 : decode cX0_leastSteps 99 = .ok (.invokevirtual 53, 3) := by decide +kernel
theorem dX0_leastSteps_102 : decode cX0_leastSteps 102 = .ok (.isub, 1) := by decide +kernel
theorem dX0_leastSteps_103 : decode cX0_leastSteps 103 = .ok (.istore_n 3, 1) := by decide +kernel
theorem dX0_leastSteps_104 : decode cX0_leastSteps 104 = .ok (.iinc 4 1, 3) := by decide +kernel
theorem dX0_leastSteps_107 : decode cX0_leastSteps 107 = .ok (.goto (-21), 3) := by decide +kernel
theorem dX0_leastSteps_110 : decode cX0_leastSteps 110 = .ok (.iconst 0, 1) := by decide +kernel
theorem dX0_leastSteps_111 : decode cX0_leastSteps 111 = .ok (.istore 4, 2) := by decide +kernel
theorem dX0_leastSteps_113 : decode cX0_leastSteps 113 = .ok (.iconst 0, 1) := by decide +kernel
theorem dX0_leastSteps_114 : decode cX0_leastSteps 114 = .ok (.istore 5, 2) := by decide +kernel
theorem dX0_leastSteps_116 : decode cX0_leastSteps 116 = .ok (.iload 5, 2) := by decide +kernel
theorem dX0_leastSteps_118 : decode cX0_leastSteps 118 = .ok (.aload_n 0, 1) := by decide +kernel
theorem dX0_leastSteps_119 : decode cX0_leastSteps 119 = .ok (.getfield 15, 3) := by decide +kernel
theorem dX0_leastSteps_122 : decode cX0_leastSteps 122 = .ok (.arraylength, 1) := by decide +kernel
theorem dX0_leastSteps_123 : decode cX0_leastSteps 123 = .ok (.if_icmp .ge 21, 3) := by decide +kernel
theorem dX0_leastSteps_126 : decode cX0_leastSteps 126 = .ok (.iload 4, 2) := by decide +kernel
theorem dX0_leastSteps_128 : decode cX0_leastSteps 128 = .ok (.aload_n 0, 1) := by decide +kernel
theorem dX0_leastSteps_129 : decode cX0_leastSteps 129 = .ok (.getfield 15, 3) := by decide +kernel
theorem dX0_leastSteps_132 : decode cX0_leastSteps 132 = .ok (.iload 5, 2) := by decide +kernel
theorem dX0_leastSteps_134 : decode cX0_leastSteps 134 = .ok (.iaload, 1) := by decide +kernel
theorem dX0_leastSteps_135 : decode cX0_leastSteps 135 = .ok (.iadd, 1) := by decide +kernel
theorem dX0_leastSteps_136 : decode cX0_leastSteps 136 = .ok (.istore 4, 2) := by decide +kernel
theorem dX0_leastSteps_138 : decode cX0_leastSteps 138 = .ok (.iinc 5 1, 3) := by decide +kernel
theorem dX0_leastSteps_141 : decode cX0_leastSteps 141 = .ok (.goto (-25), 3) := by decide +kernel
theorem dX0_leastSteps_144 : decode cX0_leastSteps 144 = .ok (.iload 4, 2) := by decide +kernel
theorem dX0_leastSteps_146 : decode cX0_leastSteps 146 = .ok (.ireturn, 1) := by decide +kernel
set_option maxRecDepth 20000 in
theorem ggX0_carryNearest_X0_findWays : GoodIn wsX0_carryNearest wsX0_findWays := goodIn_r _ [6, 7, 8, 1, 9, 10, 11, 12, 13, 14, 15, 16, 17, 18, 19, 5, 20, 21, 22, 23, 24, 25, 26, 27, 28, 29, 30, 31, 48, 49, 50, 51, 52, 53, 54, 55, 56, 57, 58] (by decide +kernel) (by decide +kernel)
set_option maxRecDepth 20000 in
theorem gX0_carryNearest_X0_findWays : GoodIn wsX0_carryNearest (wsV RX0 56 RX0 yX0_findWays wsX0_findWays) := goodIn_app (goodIn_of _ (by decide +kernel)) ggX0_carryNearest_X0_findWays
set_option maxRecDepth 20000 in
theorem ggX0_carryNearest_X0_nearestWanting : GoodIn wsX0_carryNearest wsX0_nearestWanting := goodIn_r _ [35, 7, 1, 8, 10, 11, 12, 13, 14, 15, 16, 48, 49, 50, 51, 52, 53, 54, 55, 56, 57, 58] (by decide +kernel) (by decide +kernel)
set_option maxRecDepth 20000 in
theorem gX0_carryNearest_X0_nearestWanting : GoodIn wsX0_carryNearest (wsV RX0 59 RX0 yX0_nearestWanting wsX0_nearestWanting) := goodIn_app (goodIn_of _ (by decide +kernel)) ggX0_carryNearest_X0_nearestWanting
set_option maxRecDepth 20000 in
theorem ggX0_carryNearest_X0_amountTo : GoodIn wsX0_carryNearest wsX0_amountTo := goodIn_r _ [39, 1, 9, 21, 40, 41, 42, 43, 27, 28, 29, 5, 30, 31, 48, 49, 50, 51, 52, 53] (by decide +kernel) (by decide +kernel)
set_option maxRecDepth 20000 in
theorem gX0_carryNearest_X0_amountTo : GoodIn wsX0_carryNearest (wsV RX0 62 RX0 yX0_amountTo wsX0_amountTo) := goodIn_app (goodIn_of _ (by decide +kernel)) ggX0_carryNearest_X0_amountTo
set_option maxRecDepth 20000 in
theorem ggX0_carryNearest_X0_carryAlong : GoodIn wsX0_carryNearest wsX0_carryAlong := goodIn_r _ [47, 9, 21, 31, 27, 28, 29, 5, 30, 48, 49, 50, 51, 52, 53] (by decide +kernel) (by decide +kernel)
set_option maxRecDepth 20000 in
theorem gX0_carryNearest_X0_carryAlong : GoodIn wsX0_carryNearest (wsV RX0 66 RX0 yX0_carryAlong wsX0_carryAlong) := goodIn_app (goodIn_of _ (by decide +kernel)) ggX0_carryNearest_X0_carryAlong
theorem dX0_carryNearest_0 : decode cX0_carryNearest 0 = .ok (.aload_n 0, 1) := by decide +kernel
theorem dX0_carryNearest_1 : decode cX0_carryNearest 1 = .ok (.invokevirtual 56, 3) := by decide +kernel
theorem dX0_carryNearest_4 : decode cX0_carryNearest 4 = .ok (.aload_n 0, 1) := by decide +kernel
theorem dX0_carryNearest_5 : decode cX0_carryNearest 5 = .ok (.invokevirtual 59, 3) := by decide +kernel
theorem dX0_carryNearest_8 : decode cX0_carryNearest 8 = .ok (.istore_n 1, 1) := by decide +kernel
theorem dX0_carryNearest_9 : decode cX0_carryNearest 9 = .ok (.iload_n 1, 1) := by decide +kernel
theorem dX0_carryNearest_10 : decode cX0_carryNearest 10 = .ok (.iconst (-1), 1) := by decide +kernel
theorem dX0_carryNearest_11 : decode cX0_carryNearest 11 = .ok (.if_icmp .ne 5, 3) := by decide +kernel
theorem dX0_carryNearest_14 : decode cX0_carryNearest 14 = .ok (.iconst 0, 1) := by decide +kernel
theorem dX0_carryNearest_15 : decode cX0_carryNearest 15 = .ok (.ireturn, 1) := by decide +kernel
theorem dX0_carryNearest_16 : decode cX0_carryNearest 16 = .ok (.aload_n 0, 1) := by decide +kernel
theorem dX0_carryNearest_17 : decode cX0_carryNearest 17 = .ok (.iload_n 1, 1) := by decide +kernel
theorem dX0_carryNearest_18 : decode cX0_carryNearest 18 = .ok (.invokevirtual 62, 3) := by decide +kernel
theorem dX0_carryNearest_21 : decode cX0_carryNearest 21 = .ok (.istore_n 2, 1) := by decide +kernel
theorem dX0_carryNearest_22 : decode cX0_carryNearest 22 = .ok (.aload_n 0, 1) := by decide +kernel
theorem dX0_carryNearest_23 : decode cX0_carryNearest 23 = .ok (.getfield 9, 3) := by decide +kernel
theorem dX0_carryNearest_26 : decode cX0_carryNearest 26 = .ok (.iload_n 1, 1) := by decide +kernel
theorem dX0_carryNearest_27 : decode cX0_carryNearest 27 = .ok (.dup2, 1) := by decide +kernel
theorem dX0_carryNearest_28 : decode cX0_carryNearest 28 = .ok (.iaload, 1) := by decide +kernel
theorem dX0_carryNearest_29 : decode cX0_carryNearest 29 = .ok (.iload_n 2, 1) := by decide +kernel
theorem dX0_carryNearest_30 : decode cX0_carryNearest 30 = .ok (.iadd, 1) := by decide +kernel
theorem dX0_carryNearest_31 : decode cX0_carryNearest 31 = .ok (.iastore, 1) := by decide +kernel
theorem dX0_carryNearest_32 : decode cX0_carryNearest 32 = .ok (.aload_n 0, 1) := by decide +kernel
theorem dX0_carryNearest_33 : decode cX0_carryNearest 33 = .ok (.getfield 9, 3) := by decide +kernel
theorem dX0_carryNearest_36 : decode cX0_carryNearest 36 = .ok (.aload_n 0, 1) := by decide +kernel
theorem dX0_carryNearest_37 : decode cX0_carryNearest 37 = .ok (.iload_n 1, 1) := by decide +kernel
theorem dX0_carryNearest_38 : decode cX0_carryNearest 38 = .ok (.iload_n 2, 1) := by decide +kernel
theorem dX0_carryNearest_39 : decode cX0_carryNearest 39 = .ok (.invokevirtual 66, 3) := by decide +kernel
theorem dX0_carryNearest_42 : decode cX0_carryNearest 42 = .ok (.dup2, 1) := by decide +kernel
theorem dX0_carryNearest_43 : decode cX0_carryNearest 43 = .ok (.iaload, 1) := by decide +kernel
theorem dX0_carryNearest_44 : decode cX0_carryNearest 44 = .ok (.iload_n 2, 1) := by decide +kernel
theorem dX0_carryNearest_45 : decode cX0_carryNearest 45 = .ok (.isub, 1) := by decide +kernel
theorem dX0_carryNearest_46 : decode cX0_carryNearest 46 = .ok (.iastore, 1) := by decide +kernel
theorem dX0_carryNearest_47 : decode cX0_carryNearest 47 = .ok (.iload_n 2, 1) := by decide +kernel
theorem dX0_carryNearest_48 : decode cX0_carryNearest 48 = .ok (.ireturn, 1) := by decide +kernel
set_option maxRecDepth 20000 in
theorem ggX0_findWays_X2_cells : GoodIn wsX0_findWays wsX2_cells := goodIn_r _ [9, 10, 11, 34, 35, 36, 37, 38] (by decide +kernel) (by decide +kernel)
set_option maxRecDepth 20000 in
theorem gX0_findWays_X2_cells : GoodIn wsX0_findWays (wsV RX0 43 RX2 yX2_cells wsX2_cells) := goodIn_app (goodIn_of _ (by decide +kernel)) ggX0_findWays_X2_cells
set_option maxRecDepth 20000 in
theorem ggX0_findWays_X0_stepOn : GoodIn wsX0_findWays wsX0_stepOn := goodIn_r _ [16, 1, 2, 4, 17, 18, 19, 20, 8, 21, 22, 23, 24, 25, 15, 26, 27, 28, 29, 30, 31, 32, 33, 34, 35, 36, 37, 38] (by decide +kernel) (by decide +kernel)
set_option maxRecDepth 20000 in
theorem gX0_findWays_X0_stepOn : GoodIn wsX0_findWays (wsV RX0 69 RX0 yX0_stepOn wsX0_stepOn) := goodIn_app (goodIn_of _ (by decide +kernel)) ggX0_findWays_X0_stepOn
theorem dX0_findWays_0 : decode cX0_findWays 0 = .ok (.iconst 0, 1) := by decide +kernel
theorem dX0_findWays_1 : decode cX0_findWays 1 = .ok (.istore_n 1, 1) := by decide +kernel
theorem dX0_findWays_2 : decode cX0_findWays 2 = .ok (.iload_n 1, 1) := by decide +kernel
theorem dX0_findWays_3 : decode cX0_findWays 3 = .ok (.aload_n 0, 1) := by decide +kernel
theorem dX0_findWays_4 : decode cX0_findWays 4 = .ok (.getfield 27, 3) := by decide +kernel
theorem dX0_findWays_7 : decode cX0_findWays 7 = .ok (.invokevirtual 43, 3) := by decide +kernel
theorem dX0_findWays_10 : decode cX0_findWays 10 = .ok (.if_icmp .ge 38, 3) := by decide +kernel
theorem dX0_findWays_13 : decode cX0_findWays 13 = .ok (.aload_n 0, 1) := by decide +kernel
theorem dX0_findWays_14 : decode cX0_findWays 14 = .ok (.getfield 18, 3) := by decide +kernel
theorem dX0_findWays_17 : decode cX0_findWays 17 = .ok (.iload_n 1, 1) := by decide +kernel
theorem dX0_findWays_18 : decode cX0_findWays 18 = .ok (.aload_n 0, 1) := by decide +kernel
theorem dX0_findWays_19 : decode cX0_findWays 19 = .ok (.getfield 9, 3) := by decide +kernel
theorem dX0_findWays_22 : decode cX0_findWays 22 = .ok (.iload_n 1, 1) := by decide +kernel
theorem dX0_findWays_23 : decode cX0_findWays 23 = .ok (.iaload, 1) := by decide +kernel
theorem dX0_findWays_24 : decode cX0_findWays 24 = .ok (.ifCond .le 7, 3) := by decide +kernel
theorem dX0_findWays_27 : decode cX0_findWays 27 = .ok (.iconst 0, 1) := by decide +kernel
theorem dX0_findWays_28 : decode cX0_findWays 28 = .ok (.goto 6, 3) := by decide +kernel
theorem dX0_findWays_31 : decode cX0_findWays 31 = .ok (.sipush 1000, 3) := by decide +kernel
theorem dX0_findWays_34 : decode cX0_findWays 34 = .ok (.iastore, 1) := by decide +kernel
theorem dX0_findWays_35 : decode cX0_findWays 35 = .ok (.aload_n 0, 1) := by decide +kernel
theorem dX0_findWays_36 : decode cX0_findWays 36 = .ok (.getfield 21, 3) := by decide +kernel
theorem dX0_findWays_39 : decode cX0_findWays 39 = .ok (.iload_n 1, 1) := by decide +kernel
theorem dX0_findWays_40 : decode cX0_findWays 40 = .ok (.iload_n 1, 1) := by decide +kernel
theorem dX0_findWays_41 : decode cX0_findWays 41 = .ok (.iastore, 1) := by decide +kernel
theorem dX0_findWays_42 : decode cX0_findWays 42 = .ok (.iinc 1 1, 3) := by decide +kernel
theorem dX0_findWays_45 : decode cX0_findWays 45 = .ok (.goto (-43), 3) := by decide +kernel
theorem dX0_findWays_48 : decode cX0_findWays 48 = .ok (.iconst 1, 1) := by decide +kernel
theorem dX0_findWays_49 : decode cX0_findWays 49 = .ok (.istore_n 1, 1) := by decide +kernel
theorem dX0_findWays_50 : decode cX0_findWays 50 = .ok (.iconst 0, 1) := by decide +kernel
theorem dX0_findWays_51 : decode cX0_findWays 51 = .ok (.istore_n 2, 1) := by decide +kernel
theorem dX0_findWays_52 : decode cX0_findWays 52 = .ok (.iload_n 2, 1) := by decide +kernel
theorem dX0_findWays_53 : decode cX0_findWays 53 = .ok (.bipush 25, 2) := by decide +kernel
theorem dX0_findWays_55 : decode cX0_findWays 55 = .ok (.if_icmp .ge 56, 3) := by decide +kernel
theorem dX0_findWays_58 : decode cX0_findWays 58 = .ok (.iload_n 1, 1) := by decide +kernel
theorem dX0_findWays_59 : decode cX0_findWays 59 = .ok (.ifCond .eq 52, 3) := by decide +kernel
theorem dX0_findWays_62 : decode cX0_findWays 62 = .ok (.iconst 0, 1) := by decide +kernel
theorem dX0_findWays_63 : decode cX0_findWays 63 = .ok (.istore_n 1, 1) := by decide +kernel
theorem dX0_findWays_64 : decode cX0_findWays 64 = .ok (.iconst 0, 1) := by decide +kernel
theorem dX0_findWays_65 : decode cX0_findWays 65 = .ok (.istore_n 3, 1) := by decide +kernel
theorem dX0_findWays_66 : decode cX0_findWays 66 = .ok (.iload_n 3, 1) := by decide +kernel
theorem dX0_findWays_67 : decode cX0_findWays 67 = .ok (.aload_n 0, 1) := by decide +kernel
theorem dX0_findWays_68 : decode cX0_findWays 68 = .ok (.getfield 27, 3) := by decide +kernel
theorem dX0_findWays_71 : decode cX0_findWays 71 = .ok (.invokevirtual 43, 3) := by decide +kernel
theorem dX0_findWays_74 : decode cX0_findWays 74 = .ok (.if_icmp .ge 31, 3) := by decide +kernel
theorem dX0_findWays_77 : decode cX0_findWays 77 = .ok (.aload_n 0, 1) := by decide +kernel
theorem dX0_findWays_78 : decode cX0_findWays 78 = .ok (.getfield 18, 3) := by decide +kernel
theorem dX0_findWays_81 : decode cX0_findWays 81 = .ok (.iload_n 3, 1) := by decide +kernel
theorem dX0_findWays_82 : decode cX0_findWays 82 = .ok (.iaload, 1) := by decide +kernel
theorem dX0_findWays_83 : decode cX0_findWays 83 = .ok (.sipush 1000, 3) := by decide +kernel
theorem dX0_findWays_86 : decode cX0_findWays 86 = .ok (.if_icmp .ge 13, 3) := by decide +kernel
theorem dX0_findWays_89 : decode cX0_findWays 89 = .ok (.aload_n 0, 1) := by decide +kernel
theorem dX0_findWays_90 : decode cX0_findWays 90 = .ok (.iload_n 3, 1) := by decide +kernel
theorem dX0_findWays_91 : decode cX0_findWays 91 = .ok (.invokevirtual 69, 3) := by decide +kernel
theorem dX0_findWays_94 : decode cX0_findWays 94 = .ok (.ifCond .eq 5, 3) := by decide +kernel
theorem dX0_findWays_97 : decode cX0_findWays 97 = .ok (.iconst 1, 1) := by decide +kernel
theorem dX0_findWays_98 : decode cX0_findWays 98 = .ok (.istore_n 1, 1) := by decide +kernel
theorem dX0_findWays_99 : decode cX0_findWays 99 = .ok (.iinc 3 1, 3) := by decide +kernel
theorem dX0_findWays_102 : decode cX0_findWays 102 = .ok (.goto (-36), 3) := by decide +kernel
theorem dX0_findWays_105 : decode cX0_findWays 105 = .ok (.iinc 2 1, 3) := by decide +kernel
theorem dX0_findWays_108 : decode cX0_findWays 108 = .ok (.goto (-56), 3) := by decide +kernel
theorem dX0_findWays_111 : decode cX0_findWays 111 = .ok (.return_, 1) := by decide +kernel
set_option maxRecDepth 20000 in
theorem ggX0_stepOn_X2_beside : GoodIn wsX0_stepOn wsX2_beside := goodIn_r _ [9, 10, 23, 24, 25, 26, 27] (by decide +kernel) (by decide +kernel)
set_option maxRecDepth 20000 in
theorem gX0_stepOn_X2_beside : GoodIn wsX0_stepOn (wsV RX0 73 RX2 yX2_beside wsX2_beside) := goodIn_app (goodIn_of _ (by decide +kernel)) ggX0_stepOn_X2_beside
set_option maxRecDepth 20000 in
theorem ggX0_stepOn_X0_carriedBack : GoodIn wsX0_stepOn wsX0_carriedBack := goodIn_r _ [15, 16, 17, 18, 19, 20, 21, 22] (by decide +kernel) (by decide +kernel)
set_option maxRecDepth 20000 in
theorem gX0_stepOn_X0_carriedBack : GoodIn wsX0_stepOn (wsV RX0 76 RX0 yX0_carriedBack wsX0_carriedBack) := goodIn_app (goodIn_of _ (by decide +kernel)) ggX0_stepOn_X0_carriedBack
theorem dX0_stepOn_0 : decode cX0_stepOn 0 = .ok (.iconst 0, 1) := by decide +kernel
theorem dX0_stepOn_1 : decode cX0_stepOn 1 = .ok (.istore_n 2, 1) := by decide +kernel
theorem dX0_stepOn_2 : decode cX0_stepOn 2 = .ok (.iconst 0, 1) := by decide +kernel
theorem dX0_stepOn_3 : decode cX0_stepOn 3 = .ok (.istore_n 3, 1) := by decide +kernel
theorem dX0_stepOn_4 : decode cX0_stepOn 4 = .ok (.iload_n 3, 1) := by decide +kernel
theorem dX0_stepOn_5 : decode cX0_stepOn 5 = .ok (.iconst 4, 1) := by decide +kernel
theorem dX0_stepOn_6 : decode cX0_stepOn 6 = .ok (.if_icmp .ge 92, 3) := by decide +kernel
theorem dX0_stepOn_9 : decode cX0_stepOn 9 = .ok (.aload_n 0, 1) := by decide +kernel
theorem dX0_stepOn_10 : decode cX0_stepOn 10 = .ok (.getfield 27, 3) := by decide +kernel
theorem dX0_stepOn_13 : decode cX0_stepOn 13 = .ok (.iload_n 1, 1) := by decide +kernel
theorem dX0_stepOn_14 : decode cX0_stepOn 14 = .ok (.iload_n 3, 1) := by decide +kernel
theorem dX0_stepOn_15 : decode cX0_stepOn 15 = .ok (.invokevirtual 73, 3) := by decide +kernel
theorem dX0_stepOn_18 : decode cX0_stepOn 18 = .ok (.istore 4, 2) := by decide +kernel
theorem dX0_stepOn_20 : decode cX0_stepOn 20 = .ok (.iload 4, 2) := by decide +kernel
theorem dX0_stepOn_22 : decode cX0_stepOn 22 = .ok (.iconst (-1), 1) := by decide +kernel
theorem dX0_stepOn_23 : decode cX0_stepOn 23 = .ok (.if_icmp .ne 6, 3) := by decide +kernel
theorem dX0_stepOn_26 : decode cX0_stepOn 26 = .ok (.goto 66, 3) := by decide +kernel
theorem dX0_stepOn_29 : decode cX0_stepOn 29 = .ok (.aload_n 0, 1) := by decide +kernel
theorem dX0_stepOn_30 : decode cX0_stepOn 30 = .ok (.getfield 18, 3) := by decide +kernel
theorem dX0_stepOn_33 : decode cX0_stepOn 33 = .ok (.iload_n 1, 1) := by decide +kernel
theorem dX0_stepOn_34 : decode cX0_stepOn 34 = .ok (.iaload, 1) := by decide +kernel
theorem dX0_stepOn_35 : decode cX0_stepOn 35 = .ok (.aload_n 0, 1) := by decide +kernel
theorem dX0_stepOn_36 : decode cX0_stepOn 36 = .ok (.iload 4, 2) := by decide +kernel
theorem dX0_stepOn_38 : decode cX0_stepOn 38 = .ok (.iload_n 3, 1) := by decide +kernel
theorem dX0_stepOn_39 : decode cX0_stepOn 39 = .ok (.invokevirtual 76, 3) := by decide +kernel
theorem dX0_stepOn_42 : decode cX0_stepOn 42 = .ok (.ifCond .le 7, 3) := by decide +kernel
theorem dX0_stepOn_45 : decode cX0_stepOn 45 = .ok (.iconst (-1), 1) := by decide +kernel
theorem dX0_stepOn_46 : decode cX0_stepOn 46 = .ok (.goto 4, 3) := by decide +kernel
theorem dX0_stepOn_49 : decode cX0_stepOn 49 = .ok (.iconst 1, 1) := by decide +kernel
theorem dX0_stepOn_50 : decode cX0_stepOn 50 = .ok (.iadd, 1) := by decide +kernel
theorem dX0_stepOn_51 : decode cX0_stepOn 51 = .ok (.istore 5, 2) := by decide +kernel
theorem dX0_stepOn_53 : decode cX0_stepOn 53 = .ok (.iload 5, 2) := by decide +kernel
theorem dX0_stepOn_55 : decode cX0_stepOn 55 = .ok (.aload_n 0, 1) := by decide +kernel
theorem dX0_stepOn_56 : decode cX0_stepOn 56 = .ok (.getfield 18, 3) := by decide +kernel
theorem dX0_stepOn_59 : decode cX0_stepOn 59 = .ok (.iload 4, 2) := by decide +kernel
theorem dX0_stepOn_61 : decode cX0_stepOn 61 = .ok (.iaload, 1) := by decide +kernel
theorem dX0_stepOn_62 : decode cX0_stepOn 62 = .ok (.if_icmp .ge 30, 3) := by decide +kernel
theorem dX0_stepOn_65 : decode cX0_stepOn 65 = .ok (.aload_n 0, 1) := by decide +kernel
theorem dX0_stepOn_66 : decode cX0_stepOn 66 = .ok (.getfield 18, 3) := by decide +kernel
theorem dX0_stepOn_69 : decode cX0_stepOn 69 = .ok (.iload 4, 2) := by decide +kernel
theorem dX0_stepOn_71 : decode cX0_stepOn 71 = .ok (.iload 5, 2) := by decide +kernel
theorem dX0_stepOn_73 : decode cX0_stepOn 73 = .ok (.iastore, 1) := by decide +kernel
theorem dX0_stepOn_74 : decode cX0_stepOn 74 = .ok (.aload_n 0, 1) := by decide +kernel
theorem dX0_stepOn_75 : decode cX0_stepOn 75 = .ok (.getfield 21, 3) := by decide +kernel
theorem dX0_stepOn_78 : decode cX0_stepOn 78 = .ok (.iload 4, 2) := by decide +kernel
theorem dX0_stepOn_80 : decode cX0_stepOn 80 = .ok (.iload_n 1, 1) := by decide +kernel
theorem dX0_stepOn_81 : decode cX0_stepOn 81 = .ok (.iastore, 1) := by decide +kernel
theorem dX0_stepOn_82 : decode cX0_stepOn 82 = .ok (.aload_n 0, 1) := by decide +kernel
theorem dX0_stepOn_83 : decode cX0_stepOn 83 = .ok (.getfield 24, 3) := by decide +kernel
theorem dX0_stepOn_86 : decode cX0_stepOn 86 = .ok (.iload 4, 2) := by decide +kernel
theorem dX0_stepOn_88 : decode cX0_stepOn 88 = .ok (.iload_n 3, 1) := by decide +kernel
theorem dX0_stepOn_89 : decode cX0_stepOn 89 = .ok (.iastore, 1) := by decide +kernel
theorem dX0_stepOn_90 : decode cX0_stepOn 90 = .ok (.iconst 1, 1) := by decide +kernel
theorem dX0_stepOn_91 : decode cX0_stepOn 91 = .ok (.istore_n 2, 1) := by decide +kernel
theorem dX0_stepOn_92 : decode cX0_stepOn 92 = .ok (.iinc 3 1, 3) := by decide +kernel
theorem dX0_stepOn_95 : decode cX0_stepOn 95 = .ok (.goto (-91), 3) := by decide +kernel
theorem dX0_stepOn_98 : decode cX0_stepOn 98 = .ok (.iload_n 2, 1) := by decide +kernel
theorem dX0_stepOn_99 : decode cX0_stepOn 99 = .ok (.ireturn, 1) := by decide +kernel
theorem dX0_carriedBack_0 : decode cX0_carriedBack 0 = .ok (.aload_n 0, 1) := by decide +kernel
theorem dX0_carriedBack_1 : decode cX0_carriedBack 1 = .ok (.getfield 15, 3) := by decide +kernel
theorem dX0_carriedBack_4 : decode cX0_carriedBack 4 = .ok (.iload_n 1, 1) := by decide +kernel
theorem dX0_carriedBack_5 : decode cX0_carriedBack 5 = .ok (.iconst 4, 1) := by decide +kernel
theorem dX0_carriedBack_6 : decode cX0_carriedBack 6 = .ok (.imul, 1) := by decide +kernel
theorem dX0_carriedBack_7 : decode cX0_carriedBack 7 = .ok (.iload_n 2, 1) := by decide +kernel
theorem dX0_carriedBack_8 : decode cX0_carriedBack 8 = .ok (.iconst 2, 1) := by decide +kernel
theorem dX0_carriedBack_9 : decode cX0_carriedBack 9 = .ok (.ixor, 1) := by decide +kernel
theorem dX0_carriedBack_10 : decode cX0_carriedBack 10 = .ok (.iadd, 1) := by decide +kernel
theorem dX0_carriedBack_11 : decode cX0_carriedBack 11 = .ok (.iaload, 1) := by decide +kernel
theorem dX0_carriedBack_12 : decode cX0_carriedBack 12 = .ok (.ireturn, 1) := by decide +kernel
set_option maxRecDepth 20000 in
theorem ggX0_nearestWanting_X2_cells : GoodIn wsX0_nearestWanting wsX2_cells := goodIn_r _ [8, 9, 10, 17, 18, 19, 20, 21] (by decide +kernel) (by decide +kernel)
set_option maxRecDepth 20000 in
theorem gX0_nearestWanting_X2_cells : GoodIn wsX0_nearestWanting (wsV RX0 43 RX2 yX2_cells wsX2_cells) := goodIn_app (goodIn_of _ (by decide +kernel)) ggX0_nearestWanting_X2_cells
theorem dX0_nearestWanting_0 : decode cX0_nearestWanting 0 = .ok (.iconst (-1), 1) := by decide +kernel
theorem dX0_nearestWanting_1 : decode cX0_nearestWanting 1 = .ok (.istore_n 1, 1) := by decide +kernel
theorem dX0_nearestWanting_2 : decode cX0_nearestWanting 2 = .ok (.iconst 0, 1) := by decide +kernel
theorem dX0_nearestWanting_3 : decode cX0_nearestWanting 3 = .ok (.istore_n 2, 1) := by decide +kernel
theorem dX0_nearestWanting_4 : decode cX0_nearestWanting 4 = .ok (.iload_n 2, 1) := by decide +kernel
theorem dX0_nearestWanting_5 : decode cX0_nearestWanting 5 = .ok (.aload_n 0, 1) := by decide +kernel
theorem dX0_nearestWanting_6 : decode cX0_nearestWanting 6 = .ok (.getfield 27, 3) := by decide +kernel
theorem dX0_nearestWanting_9 : decode cX0_nearestWanting 9 = .ok (.invokevirtual 43, 3) := by decide +kernel
theorem dX0_nearestWanting_12 : decode cX0_nearestWanting 12 = .ok (.if_icmp .ge 55, 3) := by decide +kernel
theorem dX0_nearestWanting_15 : decode cX0_nearestWanting 15 = .ok (.aload_n 0, 1) := by decide +kernel
theorem dX0_nearestWanting_16 : decode cX0_nearestWanting 16 = .ok (.getfield 9, 3) := by decide +kernel
theorem dX0_nearestWanting_19 : decode cX0_nearestWanting 19 = .ok (.iload_n 2, 1) := by decide +kernel
theorem dX0_nearestWanting_20 : decode cX0_nearestWanting 20 = .ok (.iaload, 1) := by decide +kernel
theorem dX0_nearestWanting_21 : decode cX0_nearestWanting 21 = .ok (.ifCond .ge 40, 3) := by decide +kernel
theorem dX0_nearestWanting_24 : decode cX0_nearestWanting 24 = .ok (.aload_n 0, 1) := by decide +kernel
theorem dX0_nearestWanting_25 : decode cX0_nearestWanting 25 = .ok (.getfield 18, 3) := by decide +kernel
theorem dX0_nearestWanting_28 : decode cX0_nearestWanting 28 = .ok (.iload_n 2, 1) := by decide +kernel
theorem dX0_nearestWanting_29 : decode cX0_nearestWanting 29 = .ok (.iaload, 1) := by decide +kernel
theorem dX0_nearestWanting_30 : decode cX0_nearestWanting 30 = .ok (.sipush 1000, 3) := by decide +kernel
theorem dX0_nearestWanting_33 : decode cX0_nearestWanting 33 = .ok (.if_icmp .lt 6, 3) := by decide +kernel
theorem dX0_nearestWanting_36 : decode cX0_nearestWanting 36 = .ok (.goto 25, 3) := by decide +kernel
theorem dX0_nearestWanting_39 : decode cX0_nearestWanting 39 = .ok (.iload_n 1, 1) := by decide +kernel
theorem dX0_nearestWanting_40 : decode cX0_nearestWanting 40 = .ok (.iconst (-1), 1) := by decide +kernel
theorem dX0_nearestWanting_41 : decode cX0_nearestWanting 41 = .ok (.if_icmp .eq 18, 3) := by decide +kernel
theorem dX0_nearestWanting_44 : decode cX0_nearestWanting 44 = .ok (.aload_n 0, 1) := by decide +kernel
theorem dX0_nearestWanting_45 : decode cX0_nearestWanting 45 = .ok (.getfield 18, 3) := by decide +kernel
theorem dX0_nearestWanting_48 : decode cX0_nearestWanting 48 = .ok (.iload_n 2, 1) := by decide +kernel
theorem dX0_nearestWanting_49 : decode cX0_nearestWanting 49 = .ok (.iaload, 1) := by decide +kernel
theorem dX0_nearestWanting_50 : decode cX0_nearestWanting 50 = .ok (.aload_n 0, 1) := by decide +kernel
theorem dX0_nearestWanting_51 : decode cX0_nearestWanting 51 = .ok (.getfield 18, 3) := by decide +kernel
theorem dX0_nearestWanting_54 : decode cX0_nearestWanting 54 = .ok (.iload_n 1, 1) := by decide +kernel
theorem dX0_nearestWanting_55 : decode cX0_nearestWanting 55 = .ok (.iaload, 1) := by decide +kernel
theorem dX0_nearestWanting_56 : decode cX0_nearestWanting 56 = .ok (.if_icmp .ge 5, 3) := by decide +kernel
theorem dX0_nearestWanting_59 : decode cX0_nearestWanting 59 = .ok (.iload_n 2, 1) := by decide +kernel
theorem dX0_nearestWanting_60 : decode cX0_nearestWanting 60 = .ok (.istore_n 1, 1) := by decide +kernel
theorem dX0_nearestWanting_61 : decode cX0_nearestWanting 61 = .ok (.iinc 2 1, 3) := by decide +kernel
theorem dX0_nearestWanting_64 : decode cX0_nearestWanting 64 = .ok (.goto (-60), 3) := by decide +kernel
theorem dX0_nearestWanting_67 : decode cX0_nearestWanting 67 = .ok (.iload_n 1, 1) := by decide +kernel
theorem dX0_nearestWanting_68 : decode cX0_nearestWanting 68 = .ok (.ireturn, 1) := by decide +kernel
set_option maxRecDepth 20000 in
theorem ggX0_amountTo_X0_carriedBack : GoodIn wsX0_amountTo wsX0_carriedBack := goodIn_r _ [12, 13, 14, 15, 16, 17, 18, 19] (by decide +kernel) (by decide +kernel)
set_option maxRecDepth 20000 in
theorem gX0_amountTo_X0_carriedBack : GoodIn wsX0_amountTo (wsV RX0 76 RX0 yX0_carriedBack wsX0_carriedBack) := goodIn_app (goodIn_of _ (by decide +kernel)) ggX0_amountTo_X0_carriedBack
theorem dX0_amountTo_0 : decode cX0_amountTo 0 = .ok (.aload_n 0, 1) := by decide +kernel
theorem dX0_amountTo_1 : decode cX0_amountTo 1 = .ok (.getfield 9, 3) := by decide +kernel
theorem dX0_amountTo_4 : decode cX0_amountTo 4 = .ok (.iload_n 1, 1) := by decide +kernel
theorem dX0_amountTo_5 : decode cX0_amountTo 5 = .ok (.iaload, 1) := by decide +kernel
theorem dX0_amountTo_6 : decode cX0_amountTo 6 = .ok (.ineg, 1) := by decide +kernel
theorem dX0_amountTo_7 : decode cX0_amountTo 7 = .ok (.istore_n 2, 1) := by decide +kernel
theorem dX0_amountTo_8 : decode cX0_amountTo 8 = .ok (.iload_n 1, 1) := by decide +kernel
theorem dX0_amountTo_9 : decode cX0_amountTo 9 = .ok (.istore_n 3, 1) := by decide +kernel
theorem dX0_amountTo_10 : decode cX0_amountTo 10 = .ok (.iconst 0, 1) := by decide +kernel
theorem dX0_amountTo_11 : decode cX0_amountTo 11 = .ok (.istore 4, 2) := by decide +kernel
theorem dX0_amountTo_13 : decode cX0_amountTo 13 = .ok (.iload 4, 2) := by decide +kernel
theorem dX0_amountTo_15 : decode cX0_amountTo 15 = .ok (.bipush 25, 2) := by decide +kernel
theorem dX0_amountTo_17 : decode cX0_amountTo 17 = .ok (.if_icmp .ge 51, 3) := by decide +kernel
theorem dX0_amountTo_20 : decode cX0_amountTo 20 = .ok (.aload_n 0, 1) := by decide +kernel
theorem dX0_amountTo_21 : decode cX0_amountTo 21 = .ok (.getfield 21, 3) := by decide +kernel
theorem dX0_amountTo_24 : decode cX0_amountTo 24 = .ok (.iload_n 3, 1) := by decide +kernel
theorem dX0_amountTo_25 : decode cX0_amountTo 25 = .ok (.iaload, 1) := by decide +kernel
theorem dX0_amountTo_26 : decode cX0_amountTo 26 = .ok (.iload_n 3, 1) := by decide +kernel
theorem dX0_amountTo_27 : decode cX0_amountTo 27 = .ok (.if_icmp .eq 41, 3) := by decide +kernel
theorem dX0_amountTo_30 : decode cX0_amountTo 30 = .ok (.aload_n 0, 1) := by decide +kernel
theorem dX0_amountTo_31 : decode cX0_amountTo 31 = .ok (.iload_n 3, 1) := by decide +kernel
theorem dX0_amountTo_32 : decode cX0_amountTo 32 = .ok (.aload_n 0, 1) := by decide +kernel
theorem dX0_amountTo_33 : decode cX0_amountTo 33 = .ok (.getfield 24, 3) := by decide +kernel
theorem dX0_amountTo_36 : decode cX0_amountTo 36 = .ok (.iload_n 3, 1) := by decide +kernel
theorem dX0_amountTo_37 : decode cX0_amountTo 37 = .ok (.iaload, 1) := by decide +kernel
theorem dX0_amountTo_38 : decode cX0_amountTo 38 = .ok (.invokevirtual 76, 3) := by decide +kernel
theorem dX0_amountTo_41 : decode cX0_amountTo 41 = .ok (.istore 5, 2) := by decide +kernel
theorem dX0_amountTo_43 : decode cX0_amountTo 43 = .ok (.iload 5, 2) := by decide +kernel
theorem dX0_amountTo_45 : decode cX0_amountTo 45 = .ok (.ifCond .le 10, 3) := by decide +kernel
theorem dX0_amountTo_48 : decode cX0_amountTo 48 = .ok (.iload_n 2, 1) := by decide +kernel
theorem dX0_amountTo_49 : decode cX0_amountTo 49 = .ok (.iload 5, 2) := by decide +kernel
theorem dX0_amountTo_51 : decode cX0_amountTo 51 = .ok (.invokestatic 79, 3) := by decide +kernel
theorem dX0_amountTo_54 : decode cX0_amountTo 54 = .ok (.istore_n 2, 1) := by decide +kernel
theorem dX0_amountTo_55 : decode cX0_amountTo 55 = .ok (.aload_n 0, 1) := by decide +kernel
theorem dX0_amountTo_56 : decode cX0_amountTo 56 = .ok (.getfield 21, 3) := by decide +kernel
theorem dX0_amountTo_59 : decode cX0_amountTo 59 = .ok (.iload_n 3, 1) := by decide +kernel
theorem dX0_amountTo_60 : decode cX0_amountTo 60 = .ok (.iaload, 1) := by decide +kernel
theorem dX0_amountTo_61 : decode cX0_amountTo 61 = .ok (.istore_n 3, 1) := by decide +kernel
theorem dX0_amountTo_62 : decode cX0_amountTo 62 = .ok (.iinc 4 1, 3) := by decide +kernel
theorem dX0_amountTo_65 : decode cX0_amountTo 65 = .ok (.goto (-52), 3) := by decide +kernel
theorem dX0_amountTo_68 : decode cX0_amountTo 68 = .ok (.iload_n 2, 1) := by decide +kernel
theorem dX0_amountTo_69 : decode cX0_amountTo 69 = .ok (.aload_n 0, 1) := by decide +kernel
theorem dX0_amountTo_70 : decode cX0_amountTo 70 = .ok (.getfield 9, 3) := by decide +kernel
theorem dX0_amountTo_73 : decode cX0_amountTo 73 = .ok (.iload_n 3, 1) := by decide +kernel
theorem dX0_amountTo_74 : decode cX0_amountTo 74 = .ok (.iaload, 1) := by decide +kernel
theorem dX0_amountTo_75 : decode cX0_amountTo 75 = .ok (.invokestatic 79, 3) := by decide +kernel
theorem dX0_amountTo_78 : decode cX0_amountTo 78 = .ok (.ireturn, 1) := by decide +kernel
set_option maxRecDepth 20000 in
theorem ggX0_carryAlong_X0_carriedBack : GoodIn wsX0_carryAlong wsX0_carriedBack := goodIn_r _ [8, 3, 9, 10, 11, 12, 13, 14] (by decide +kernel) (by decide +kernel)
set_option maxRecDepth 20000 in
theorem gX0_carryAlong_X0_carriedBack : GoodIn wsX0_carryAlong (wsV RX0 76 RX0 yX0_carriedBack wsX0_carriedBack) := goodIn_app (goodIn_of _ (by decide +kernel)) ggX0_carryAlong_X0_carriedBack
theorem dX0_carryAlong_0 : decode cX0_carryAlong 0 = .ok (.iload_n 1, 1) := by decide +kernel
theorem dX0_carryAlong_1 : decode cX0_carryAlong 1 = .ok (.istore_n 3, 1) := by decide +kernel
theorem dX0_carryAlong_2 : decode cX0_carryAlong 2 = .ok (.iconst 0, 1) := by decide +kernel
theorem dX0_carryAlong_3 : decode cX0_carryAlong 3 = .ok (.istore 4, 2) := by decide +kernel
theorem dX0_carryAlong_5 : decode cX0_carryAlong 5 = .ok (.iload 4, 2) := by decide +kernel
theorem dX0_carryAlong_7 : decode cX0_carryAlong 7 = .ok (.bipush 25, 2) := by decide +kernel
theorem dX0_carryAlong_9 : decode cX0_carryAlong 9 = .ok (.if_icmp .ge 84, 3) := by decide +kernel
theorem dX0_carryAlong_12 : decode cX0_carryAlong 12 = .ok (.aload_n 0, 1) := by decide +kernel
theorem dX0_carryAlong_13 : decode cX0_carryAlong 13 = .ok (.getfield 21, 3) := by decide +kernel
theorem dX0_carryAlong_16 : decode cX0_carryAlong 16 = .ok (.iload_n 3, 1) := by decide +kernel
theorem dX0_carryAlong_17 : decode cX0_carryAlong 17 = .ok (.iaload, 1) := by decide +kernel
theorem dX0_carryAlong_18 : decode cX0_carryAlong 18 = .ok (.iload_n 3, 1) := by decide +kernel
theorem dX0_carryAlong_19 : decode cX0_carryAlong 19 = .ok (.if_icmp .eq 74, 3) := by decide +kernel
theorem dX0_carryAlong_22 : decode cX0_carryAlong 22 = .ok (.aload_n 0, 1) := by decide +kernel
theorem dX0_carryAlong_23 : decode cX0_carryAlong 23 = .ok (.getfield 24, 3) := by decide +kernel
theorem dX0_carryAlong_26 : decode cX0_carryAlong 26 = .ok (.iload_n 3, 1) := by decide +kernel
theorem dX0_carryAlong_27 : decode cX0_carryAlong 27 = .ok (.iaload, 1) := by decide +kernel
theorem dX0_carryAlong_28 : decode cX0_carryAlong 28 = .ok (.istore 5, 2) := by decide +kernel
theorem dX0_carryAlong_30 : decode cX0_carryAlong 30 = .ok (.aload_n 0, 1) := by decide +kernel
theorem dX0_carryAlong_31 : decode cX0_carryAlong 31 = .ok (.getfield 21, 3) := by decide +kernel
theorem dX0_carryAlong_34 : decode cX0_carryAlong 34 = .ok (.iload_n 3, 1) := by decide +kernel
theorem dX0_carryAlong_35 : decode cX0_carryAlong 35 = .ok (.iaload, 1) := by decide +kernel
theorem dX0_carryAlong_36 : decode cX0_carryAlong 36 = .ok (.istore 6, 2) := by decide +kernel
theorem dX0_carryAlong_38 : decode cX0_carryAlong 38 = .ok (.aload_n 0, 1) := by decide +kernel
theorem dX0_carryAlong_39 : decode cX0_carryAlong 39 = .ok (.iload_n 3, 1) := by decide +kernel
theorem dX0_carryAlong_40 : decode cX0_carryAlong 40 = .ok (.iload 5, 2) := by decide +kernel
theorem dX0_carryAlong_42 : decode cX0_carryAlong 42 = .ok (.invokevirtual 76, 3) := by decide +kernel
theorem dX0_carryAlong_45 : decode cX0_carryAlong 45 = .ok (.ifCond .le 23, 3) := by decide +kernel
theorem dX0_carryAlong_48 : decode cX0_carryAlong 48 = .ok (.aload_n 0, 1) := by decide +kernel
theorem dX0_carryAlong_49 : decode cX0_carryAlong 49 = .ok (.getfield 15, 3) := by decide +kernel
theorem dX0_carryAlong_52 : decode cX0_carryAlong 52 = .ok (.iload_n 3, 1) := by decide +kernel
theorem dX0_carryAlong_53 : decode cX0_carryAlong 53 = .ok (.iconst 4, 1) := by decide +kernel
theorem dX0_carryAlong_54 : decode cX0_carryAlong 54 = .ok (.imul, 1) := by decide +kernel
theorem dX0_carryAlong_55 : decode cX0_carryAlong 55 = .ok (.iload 5, 2) := by decide +kernel
theorem dX0_carryAlong_57 : decode cX0_carryAlong 57 = .ok (.iconst 2, 1) := by decide +kernel
theorem dX0_carryAlong_58 : decode cX0_carryAlong 58 = .ok (.ixor, 1) := by decide +kernel
theorem dX0_carryAlong_59 : decode cX0_carryAlong 59 = .ok (.iadd, 1) := by decide +kernel
theorem dX0_carryAlong_60 : decode cX0_carryAlong 60 = .ok (.dup2, 1) := by decide +kernel
theorem dX0_carryAlong_61 : decode cX0_carryAlong 61 = .ok (.iaload, 1) := by decide +kernel
theorem dX0_carryAlong_62 : decode cX0_carryAlong 62 = .ok (.iload_n 2, 1) := by decide +kernel
theorem dX0_carryAlong_63 : decode cX0_carryAlong 63 = .ok (.isub, 1) := by decide +kernel
theorem dX0_carryAlong_64 : decode cX0_carryAlong 64 = .ok (.iastore, 1) := by decide +kernel
theorem dX0_carryAlong_65 : decode cX0_carryAlong 65 = .ok (.goto 19, 3) := by decide +kernel
theorem dX0_carryAlong_68 : decode cX0_carryAlong 68 = .ok (.aload_n 0, 1) := by decide +kernel
theorem dX0_carryAlong_69 : decode cX0_carryAlong 69 = .ok (.getfield 15, 3) := by decide +kernel
theorem dX0_carryAlong_72 : decode cX0_carryAlong 72 = .ok (.iload 6, 2) := by decide +kernel
theorem dX0_carryAlong_74 : decode cX0_carryAlong 74 = .ok (.iconst 4, 1) := by decide +kernel
theorem dX0_carryAlong_75 : decode cX0_carryAlong 75 = .ok (.imul, 1) := by decide +kernel
theorem dX0_carryAlong_76 : decode cX0_carryAlong 76 = .ok (.iload 5, 2) := by decide +kernel
theorem dX0_carryAlong_78 : decode cX0_carryAlong 78 = .ok (.iadd, 1) := by decide +kernel
theorem dX0_carryAlong_79 : decode cX0_carryAlong 79 = .ok (.dup2, 1) := by decide +kernel
theorem dX0_carryAlong_80 : decode cX0_carryAlong 80 = .ok (.iaload, 1) := by decide +kernel
theorem dX0_carryAlong_81 : decode cX0_carryAlong 81 = .ok (.iload_n 2, 1) := by decide +kernel
theorem dX0_carryAlong_82 : decode cX0_carryAlong 82 = .ok (.iadd, 1) := by decide +kernel
theorem dX0_carryAlong_83 : decode cX0_carryAlong 83 = .ok (.iastore, 1) := by decide +kernel
theorem dX0_carryAlong_84 : decode cX0_carryAlong 84 = .ok (.iload 6, 2) := by decide +kernel
theorem dX0_carryAlong_86 : decode cX0_carryAlong 86 = .ok (.istore_n 3, 1) := by decide +kernel
theorem dX0_carryAlong_87 : decode cX0_carryAlong 87 = .ok (.iinc 4 1, 3) := by decide +kernel
theorem dX0_carryAlong_90 : decode cX0_carryAlong 90 = .ok (.goto (-85), 3) := by decide +kernel
theorem dX0_carryAlong_93 : decode cX0_carryAlong 93 = .ok (.iload_n 3, 1) := by decide +kernel
theorem dX0_carryAlong_94 : decode cX0_carryAlong 94 = .ok (.ireturn, 1) := by decide +kernel
theorem dX1_init_0 : decode cX1_init 0 = .ok (.aload_n 0, 1) := by decide +kernel
theorem dX1_init_1 : decode cX1_init 1 = .ok (.invokespecial 3, 3) := by decide +kernel
theorem dX1_init_4 : decode cX1_init 4 = .ok (.aload_n 0, 1) := by decide +kernel
theorem dX1_init_5 : decode cX1_init 5 = .ok (.bipush 25, 2) := by decide +kernel
theorem dX1_init_7 : decode cX1_init 7 = .ok (.newarray .int, 2) := by decide +kernel
theorem dX1_init_9 : decode cX1_init 9 = .ok (.putfield 9, 3) := by decide +kernel
theorem dX1_init_12 : decode cX1_init 12 = .ok (.aload_n 0, 1) := by decide +kernel
theorem dX1_init_13 : decode cX1_init 13 = .ok (.bipush 25, 2) := by decide +kernel
theorem dX1_init_15 : decode cX1_init 15 = .ok (.newarray .int, 2) := by decide +kernel
theorem dX1_init_17 : decode cX1_init 17 = .ok (.putfield 15, 3) := by decide +kernel
theorem dX1_init_20 : decode cX1_init 20 = .ok (.aload_n 0, 1) := by decide +kernel
theorem dX1_init_21 : decode cX1_init 21 = .ok (.bipush 25, 2) := by decide +kernel
theorem dX1_init_23 : decode cX1_init 23 = .ok (.newarray .int, 2) := by decide +kernel
theorem dX1_init_25 : decode cX1_init 25 = .ok (.putfield 18, 3) := by decide +kernel
theorem dX1_init_28 : decode cX1_init 28 = .ok (.aload_n 0, 1) := by decide +kernel
theorem dX1_init_29 : decode cX1_init 29 = .ok (.bipush 26, 2) := by decide +kernel
theorem dX1_init_31 : decode cX1_init 31 = .ok (.bipush 64, 2) := by decide +kernel
theorem dX1_init_33 : decode cX1_init 33 = .ok (.multianewarray 21 2, 4) := by decide +kernel
theorem dX1_init_37 : decode cX1_init 37 = .ok (.putfield 23, 3) := by decide +kernel
theorem dX1_init_40 : decode cX1_init 40 = .ok (.aload_n 0, 1) := by decide +kernel
theorem dX1_init_41 : decode cX1_init 41 = .ok (.bipush 26, 2) := by decide +kernel
theorem dX1_init_43 : decode cX1_init 43 = .ok (.bipush 64, 2) := by decide +kernel
theorem dX1_init_45 : decode cX1_init 45 = .ok (.multianewarray 21 2, 4) := by decide +kernel
theorem dX1_init_49 : decode cX1_init 49 = .ok (.putfield 26, 3) := by decide +kernel
theorem dX1_init_52 : decode cX1_init 52 = .ok (.aload_n 0, 1) := by decide +kernel
theorem dX1_init_53 : decode cX1_init 53 = .ok (.bipush 64, 2) := by decide +kernel
theorem dX1_init_55 : decode cX1_init 55 = .ok (.newarray .int, 2) := by decide +kernel
theorem dX1_init_57 : decode cX1_init 57 = .ok (.putfield 29, 3) := by decide +kernel
theorem dX1_init_60 : decode cX1_init 60 = .ok (.aload_n 0, 1) := by decide +kernel
theorem dX1_init_61 : decode cX1_init 61 = .ok (.bipush 64, 2) := by decide +kernel
theorem dX1_init_63 : decode cX1_init 63 = .ok (.newarray .int, 2) := by decide +kernel
theorem dX1_init_65 : decode cX1_init 65 = .ok (.putfield 32, 3) := by decide +kernel
theorem dX1_init_68 : decode cX1_init 68 = .ok (.aload_n 0, 1) := by decide +kernel
theorem dX1_init_69 : decode cX1_init 69 = .ok (.iconst 0, 1) := by decide +kernel
theorem dX1_init_70 : decode cX1_init 70 = .ok (.putfield 35, 3) := by decide +kernel
theorem dX1_init_73 : decode cX1_init 73 = .ok (.aload_n 0, 1) := by decide +kernel
theorem dX1_init_74 : decode cX1_init 74 = .ok (.aload_n 1, 1) := by decide +kernel
theorem dX1_init_75 : decode cX1_init 75 = .ok (.putfield 39, 3) := by decide +kernel
theorem dX1_init_78 : decode cX1_init 78 = .ok (.aload_n 0, 1) := by decide +kernel
theorem dX1_init_79 : decode cX1_init 79 = .ok (.aload_n 2, 1) := by decide +kernel
theorem dX1_init_80 : decode cX1_init 80 = .ok (.putfield 43, 3) := by decide +kernel
theorem dX1_init_83 : decode cX1_init 83 = .ok (.return_, 1) := by decide +kernel
set_option maxRecDepth 20000 in
theorem ggX1_refresh_X5_version : GoodIn wsX1_refresh wsX5_version := goodIn_r _ [7, 8, 127, 128, 129, 130, 131] (by decide +kernel) (by decide +kernel)
set_option maxRecDepth 20000 in
theorem gX1_refresh_X5_version : GoodIn wsX1_refresh (wsV RX1 47 RX5 yX5_version wsX5_version) := goodIn_app (goodIn_of _ (by decide +kernel)) ggX1_refresh_X5_version
set_option maxRecDepth 20000 in
theorem ggX1_refresh_X1_readTold : GoodIn wsX1_refresh wsX1_readTold := goodIn_r _ [13, 14, 2, 15, 16, 17, 18, 19, 20, 21, 22, 23, 24, 25, 26, 27, 28, 29, 30, 31, 32, 6, 33, 34, 35, 36, 37, 38, 39, 40, 41, 42, 43, 44, 45, 46, 47, 48, 12, 49, 50, 51, 52, 53, 54, 55, 56, 57, 58, 59, 60, 117, 118, 119, 120, 121, 122, 123, 124, 125, 126, 132, 133, 134, 135, 136, 127, 128, 129, 130, 131, 137, 138] (by decide +kernel) (by decide +kernel)
set_option maxRecDepth 20000 in
theorem gX1_refresh_X1_readTold : GoodIn wsX1_refresh (wsV RX1 52 RX1 yX1_readTold wsX1_readTold) := goodIn_app (goodIn_of _ (by decide +kernel)) ggX1_refresh_X1_readTold
set_option maxRecDepth 20000 in
theorem ggX1_refresh_X1_countBefore : GoodIn wsX1_refresh wsX1_countBefore := goodIn_r _ [64, 65, 14, 66, 67, 68, 69, 18, 19, 20, 21, 22, 23, 24, 70, 71, 72, 12, 73, 74, 75, 76, 77, 17, 15, 16, 78, 79, 80, 81, 82, 83, 84, 85, 86, 87, 88, 25, 26, 27, 28, 29, 89, 90, 91, 92, 93, 94, 95, 96, 97, 98, 99, 100, 101, 102, 103, 117, 118, 119, 120, 121, 122, 123, 124, 125, 126, 132, 133, 134, 135, 136] (by decide +kernel) (by decide +kernel)
set_option maxRecDepth 20000 in
theorem gX1_refresh_X1_countBefore : GoodIn wsX1_refresh (wsV RX1 55 RX1 yX1_countBefore wsX1_countBefore) := goodIn_app (goodIn_of _ (by decide +kernel)) ggX1_refresh_X1_countBefore
set_option maxRecDepth 20000 in
theorem ggX1_refresh_X1_countBehind : GoodIn wsX1_refresh wsX1_countBehind := goodIn_r _ [107, 14, 108, 18, 19, 20, 21, 22, 23, 24, 66, 67, 68, 69, 109, 110, 111, 12, 112, 97, 98, 99, 100, 93, 94, 95, 96, 113, 114, 115, 116, 65, 74, 75, 76, 77, 17, 15, 16, 78, 79, 80, 81, 82, 83, 84, 85, 86, 87, 88, 25, 26, 27, 28, 29, 89, 90, 91, 92, 101, 102, 103, 117, 118, 119, 120, 121, 122, 123, 124, 125, 126, 132, 133, 134, 135, 136] (by decide +kernel) (by decide +kernel)
set_option maxRecDepth 20000 in
theorem gX1_refresh_X1_countBehind : GoodIn wsX1_refresh (wsV RX1 58 RX1 yX1_countBehind wsX1_countBehind) := goodIn_app (goodIn_of _ (by decide +kernel)) ggX1_refresh_X1_countBehind
theorem dX1_refresh_0 : decode cX1_refresh 0 = .ok (.aload_n 0, 1) := by decide +kernel
theorem dX1_refresh_1 : decode cX1_refresh 1 = .ok (.getfield 35, 3) := by decide +kernel
theorem dX1_refresh_4 : decode cX1_refresh 4 = .ok (.aload_n 0, 1) := by decide +kernel
theorem dX1_refresh_5 : decode cX1_refresh 5 = .ok (.getfield 43, 3) := by decide +kernel
theorem dX1_refresh_8 : decode cX1_refresh 8 = .ok (.invokevirtual 47, 3) := by decide +kernel
theorem dX1_refresh_11 : decode cX1_refresh 11 = .ok (.if_icmp .ne 4, 3) := by decide +kernel
theorem dX1_refresh_14 : decode cX1_refresh 14 = .ok (.return_, 1) := by decide +kernel
theorem dX1_refresh_15 : decode cX1_refresh 15 = .ok (.aload_n 0, 1) := by decide +kernel
theorem dX1_refresh_16 : decode cX1_refresh 16 = .ok (.aload_n 0, 1) := by decide +kernel
theorem dX1_refresh_17 : decode cX1_refresh 17 = .ok (.getfield 43, 3) := by decide +kernel
theorem dX1_refresh_20 : decode cX1_refresh 20 = .ok (.invokevirtual 47, 3) := by decide +kernel
theorem dX1_refresh_23 : decode cX1_refresh 23 = .ok (.putfield 35, 3) := by decide +kernel
theorem dX1_refresh_26 : decode cX1_refresh 26 = .ok (.aload_n 0, 1) := by decide +kernel
theorem dX1_refresh_27 : decode cX1_refresh 27 = .ok (.invokevirtual 52, 3) := by decide +kernel
theorem dX1_refresh_30 : decode cX1_refresh 30 = .ok (.aload_n 0, 1) := by decide +kernel
theorem dX1_refresh_31 : decode cX1_refresh 31 = .ok (.invokevirtual 55, 3) := by decide +kernel
theorem dX1_refresh_34 : decode cX1_refresh 34 = .ok (.aload_n 0, 1) := by decide +kernel
theorem dX1_refresh_35 : decode cX1_refresh 35 = .ok (.invokevirtual 58, 3) := by decide +kernel
theorem dX1_refresh_38 : decode cX1_refresh 38 = .ok (.return_, 1) := by decide +kernel
theorem dX1_all_0 : decode cX1_all 0 = .ok (.aload_n 0, 1) := by decide +kernel
theorem dX1_all_1 : decode cX1_all 1 = .ok (.getfield 26, 3) := by decide +kernel
theorem dX1_all_4 : decode cX1_all 4 = .ok (.iconst 0, 1) := by decide +kernel
theorem dX1_all_5 : decode cX1_all 5 = .ok (.aaload, 1) := by decide +kernel
theorem dX1_all_6 : decode cX1_all 6 = .ok (.iconst 0, 1) := by decide +kernel
theorem dX1_all_7 : decode cX1_all 7 = .ok (.laload, 1) := by decide +kernel
theorem dX1_all_8 : decode cX1_all 8 = .ok (.lreturn, 1) := by decide +kernel
set_option maxRecDepth 20000 in
theorem ggX1_having_X1_has : GoodIn wsX1_having wsX1_has := goodIn_r _ [7] (by decide +kernel) (by decide +kernel)
set_option maxRecDepth 20000 in
theorem gX1_having_X1_has : GoodIn wsX1_having (va_wsS RX1 61 yX1_has wsX1_has) := goodIn_app (goodIn_of _ (by decide +kernel)) ggX1_having_X1_has
set_option maxRecDepth 20000 in
theorem ggX1_having_X1_kindOf : GoodIn wsX1_having wsX1_kindOf := goodIn_r _ [11, 12, 13, 4, 5, 6, 7, 42, 43, 44, 45, 46, 47, 48, 49, 50, 51] (by decide +kernel) (by decide +kernel)
set_option maxRecDepth 20000 in
theorem gX1_having_X1_kindOf : GoodIn wsX1_having (wsV RX1 65 RX1 yX1_kindOf wsX1_kindOf) := goodIn_app (goodIn_of _ (by decide +kernel)) ggX1_having_X1_kindOf
set_option maxRecDepth 20000 in
theorem ggX1_having_X1_linesMet : GoodIn wsX1_having wsX1_linesMet := goodIn_r _ [17, 18, 19, 20, 21, 22, 23, 24, 42, 43, 44, 45, 46, 47, 48, 49, 50, 51, 52, 53, 54, 55, 56] (by decide +kernel) (by decide +kernel)
set_option maxRecDepth 20000 in
theorem gX1_having_X1_linesMet : GoodIn wsX1_having (wsV RX1 69 RX1 yX1_linesMet wsX1_linesMet) := goodIn_app (goodIn_of _ (by decide +kernel)) ggX1_having_X1_linesMet
set_option maxRecDepth 20000 in
theorem ggX1_having_X1_endsRow : GoodIn wsX1_having wsX1_endsRow := goodIn_r _ [28, 18, 19, 20, 21, 22, 23, 24, 29, 30, 31, 32, 33, 34, 42, 43, 44, 45, 46, 47, 48, 49, 50, 51, 52, 53, 54, 55, 56] (by decide +kernel) (by decide +kernel)
set_option maxRecDepth 20000 in
theorem gX1_having_X1_endsRow : GoodIn wsX1_having (wsV RX1 72 RX1 yX1_endsRow wsX1_endsRow) := goodIn_app (goodIn_of _ (by decide +kernel)) ggX1_having_X1_endsRow
set_option maxRecDepth 20000 in
theorem ggX1_having_X1_states : GoodIn wsX1_having wsX1_states := goodIn_r _ [38, 18, 29, 30, 31, 22, 32, 33, 34, 42, 43, 44, 45, 46, 47, 48, 49, 50, 51, 52, 53, 54, 55, 56] (by decide +kernel) (by decide +kernel)
set_option maxRecDepth 20000 in
theorem gX1_having_X1_states : GoodIn wsX1_having (wsV RX1 76 RX1 yX1_states wsX1_states) := goodIn_app (goodIn_of _ (by decide +kernel)) ggX1_having_X1_states
set_option maxRecDepth 20000 in
theorem ggX1_having_X1_after : GoodIn wsX1_having wsX1_after := goodIn_r _ [41] (by decide +kernel) (by decide +kernel)
set_option maxRecDepth 20000 in
theorem gX1_having_X1_after : GoodIn wsX1_having (va_wsS RX1 79 yX1_after wsX1_after) := goodIn_app (goodIn_of _ (by decide +kernel)) ggX1_having_X1_after
theorem dX1_having_0 : decode cX1_having 0 = .ok (.aload_n 0, 1) := by decide +kernel
theorem dX1_having_1 : decode cX1_having 1 = .ok (.getfield 9, 3) := by decide +kernel
theorem dX1_having_4 : decode cX1_having 4 = .ok (.iload_n 1, 1) := by decide +kernel
theorem dX1_having_5 : decode cX1_having 5 = .ok (.iaload, 1) := by decide +kernel
theorem dX1_having_6 : decode cX1_having 6 = .ok (.iload_n 2, 1) := by decide +kernel
theorem dX1_having_7 : decode cX1_having 7 = .ok (.invokestatic 61, 3) := by decide +kernel
theorem dX1_having_10 : decode cX1_having 10 = .ok (.ifCond .ne 5, 3) := by decide +kernel
theorem dX1_having_13 : decode cX1_having 13 = .ok (.lconst 0, 1) := by decide +kernel
theorem dX1_having_14 : decode cX1_having 14 = .ok (.lreturn, 1) := by decide +kernel
theorem dX1_having_15 : decode cX1_having 15 = .ok (.aload_n 0, 1) := by decide +kernel
theorem dX1_having_16 : decode cX1_having 16 = .ok (.iload_n 1, 1) := by decide +kernel
theorem dX1_having_17 : decode cX1_having 17 = .ok (.aload_n 0, 1) := by decide +kernel
theorem dX1_having_18 : decode cX1_having 18 = .ok (.iload_n 1, 1) := by decide +kernel
theorem dX1_having_19 : decode cX1_having 19 = .ok (.iload_n 2, 1) := by decide +kernel
theorem dX1_having_20 : decode cX1_having 20 = .ok (.invokevirtual 65, 3) := by decide +kernel
theorem dX1_having_23 : decode cX1_having 23 = .ok (.invokevirtual 69, 3) := by decide +kernel
theorem dX1_having_26 : decode cX1_having 26 = .ok (.istore_n 3, 1) := by decide +kernel
theorem dX1_having_27 : decode cX1_having 27 = .ok (.aload_n 0, 1) := by decide +kernel
theorem dX1_having_28 : decode cX1_having 28 = .ok (.iload_n 1, 1) := by decide +kernel
theorem dX1_having_29 : decode cX1_having 29 = .ok (.invokevirtual 72, 3) := by decide +kernel
theorem dX1_having_32 : decode cX1_having 32 = .ok (.istore 4, 2) := by decide +kernel
theorem dX1_having_34 : decode cX1_having 34 = .ok (.aload_n 0, 1) := by decide +kernel
theorem dX1_having_35 : decode cX1_having 35 = .ok (.invokevirtual 76, 3) := by decide +kernel
theorem dX1_having_38 : decode cX1_having 38 = .ok (.istore 5, 2) := by decide +kernel
theorem dX1_having_40 : decode cX1_having 40 = .ok (.lconst 0, 1) := by decide +kernel
theorem dX1_having_41 : decode cX1_having 41 = .ok (.lstore 6, 2) := by decide +kernel
theorem dX1_having_43 : decode cX1_having 43 = .ok (.iconst 0, 1) := by decide +kernel
theorem dX1_having_44 : decode cX1_having 44 = .ok (.istore 8, 2) := by decide +kernel
theorem dX1_having_46 : decode cX1_having 46 = .ok (.iload 8, 2) := by decide +kernel
theorem dX1_having_48 : decode cX1_having 48 = .ok (.iload 5, 2) := by decide +kernel
theorem dX1_having_50 : decode cX1_having 50 = .ok (.if_icmp .ge 69, 3) := by decide +kernel
theorem dX1_having_53 : decode cX1_having 53 = .ok (.aload_n 0, 1) := by decide +kernel
theorem dX1_having_54 : decode cX1_having 54 = .ok (.getfield 23, 3) := by decide +kernel
theorem dX1_having_57 : decode cX1_having 57 = .ok (.iload_n 1, 1) := by decide +kernel
theorem dX1_having_58 : decode cX1_having 58 = .ok (.aaload, 1) := by decide +kernel
theorem dX1_having_59 : decode cX1_having 59 = .ok (.iload 8, 2) := by decide +kernel
theorem dX1_having_61 : decode cX1_having 61 = .ok (.laload, 1) := by decide +kernel
theorem dX1_having_62 : decode cX1_having 62 = .ok (.lconst 0, 1) := by decide +kernel
theorem dX1_having_63 : decode cX1_having 63 = .ok (.lcmp, 1) := by decide +kernel
theorem dX1_having_64 : decode cX1_having 64 = .ok (.ifCond .ne 6, 3) := by decide +kernel
theorem dX1_having_67 : decode cX1_having 67 = .ok (.goto 46, 3) := by decide +kernel
theorem dX1_having_70 : decode cX1_having 70 = .ok (.iload 8, 2) := by decide +kernel
theorem dX1_having_72 : decode cX1_having 72 = .ok (.iload_n 3, 1) := by decide +kernel
theorem dX1_having_73 : decode cX1_having 73 = .ok (.ior, 1) := by decide +kernel
theorem dX1_having_74 : decode cX1_having 74 = .ok (.iload 4, 2) := by decide +kernel
theorem dX1_having_76 : decode cX1_having 76 = .ok (.invokestatic 79, 3) := by decide +kernel
theorem dX1_having_79 : decode cX1_having 79 = .ok (.istore 9, 2) := by decide +kernel
theorem dX1_having_81 : decode cX1_having 81 = .ok (.iload 9, 2) := by decide +kernel
theorem dX1_having_83 : decode cX1_having 83 = .ok (.iconst (-1), 1) := by decide +kernel
theorem dX1_having_84 : decode cX1_having 84 = .ok (.if_icmp .eq 29, 3) := by decide +kernel
theorem dX1_having_87 : decode cX1_having 87 = .ok (.lload 6, 2) := by decide +kernel
theorem dX1_having_89 : decode cX1_having 89 = .ok (.aload_n 0, 1) := by decide +kernel
theorem dX1_having_90 : decode cX1_having 90 = .ok (.getfield 23, 3) := by decide +kernel
theorem dX1_having_93 : decode cX1_having 93 = .ok (.iload_n 1, 1) := by decide +kernel
theorem dX1_having_94 : decode cX1_having 94 = .ok (.aaload, 1) := by decide +kernel
theorem dX1_having_95 : decode cX1_having 95 = .ok (.iload 8, 2) := by decide +kernel
theorem dX1_having_97 : decode cX1_having 97 = .ok (.laload, 1) := by decide +kernel
theorem dX1_having_98 : decode cX1_having 98 = .ok (.aload_n 0, 1) := by decide +kernel
theorem dX1_having_99 : decode cX1_having 99 = .ok (.getfield 26, 3) := by decide +kernel
theorem dX1_having_102 : decode cX1_having 102 = .ok (.iload_n 1, 1) := by decide +kernel
theorem dX1_having_103 : decode cX1_having 103 = .ok (.iconst 1, 1) := by decide +kernel
theorem dX1_having_104 : decode cX1_having 104 = .ok (.iadd, 1) := by decide +kernel
theorem dX1_having_105 : decode cX1_having 105 = .ok (.aaload, 1) := by decide +kernel
theorem dX1_having_106 : decode cX1_having 106 = .ok (.iload 9, 2) := by decide +kernel
theorem dX1_having_108 : decode cX1_having 108 = .ok (.laload, 1) := by decide +kernel
theorem dX1_having_109 : decode cX1_having 109 = .ok (.lmul, 1) := by decide +kernel
theorem dX1_having_110 : decode cX1_having 110 = .ok (.ladd, 1) := by decide +kernel
theorem dX1_having_111 : decode cX1_having 111 = .ok (.lstore 6, 2) := by decide +kernel
theorem dX1_having_113 : decode cX1_having 113 = .ok (.iinc 8 1, 3) := by decide +kernel
theorem dX1_having_116 : decode cX1_having 116 = .ok (.goto (-70), 3) := by decide +kernel
theorem dX1_having_119 : decode cX1_having 119 = .ok (.lload 6, 2) := by decide +kernel
theorem dX1_having_121 : decode cX1_having 121 = .ok (.lreturn, 1) := by decide +kernel
set_option maxRecDepth 20000 in
theorem ggX1_extreme_X1_having : GoodIn wsX1_extreme wsX1_having := goodIn_r _ [5, 6, 7, 8, 9, 10, 4, 11, 12, 13, 14, 15, 16, 17, 18, 19, 20, 21, 22, 23, 24, 25, 26, 27, 28, 29, 30, 31, 32, 33, 34, 35, 36, 37, 38, 39, 40, 41, 42, 43, 44, 45, 46, 47, 48, 49, 50, 51, 52, 53, 54, 55, 56, 57, 58, 59, 60] (by decide +kernel) (by decide +kernel)
set_option maxRecDepth 20000 in
theorem gX1_extreme_X1_having : GoodIn wsX1_extreme (wsV RX1 83 RX1 yX1_having wsX1_having) := goodIn_app (goodIn_of _ (by decide +kernel)) ggX1_extreme_X1_having
theorem dX1_extreme_0 : decode cX1_extreme 0 = .ok (.iconst 0, 1) := by decide +kernel
theorem dX1_extreme_1 : decode cX1_extreme 1 = .ok (.istore_n 3, 1) := by decide +kernel
theorem dX1_extreme_2 : decode cX1_extreme 2 = .ok (.iload_n 3, 1) := by decide +kernel
theorem dX1_extreme_3 : decode cX1_extreme 3 = .ok (.iconst 4, 1) := by decide +kernel
theorem dX1_extreme_4 : decode cX1_extreme 4 = .ok (.if_icmp .gt 37, 3) := by decide +kernel
theorem dX1_extreme_7 : decode cX1_extreme 7 = .ok (.iload_n 2, 1) := by decide +kernel
theorem dX1_extreme_8 : decode cX1_extreme 8 = .ok (.ifCond .eq 9, 3) := by decide +kernel
theorem dX1_extreme_11 : decode cX1_extreme 11 = .ok (.iconst 4, 1) := by decide +kernel
theorem dX1_extreme_12 : decode cX1_extreme 12 = .ok (.iload_n 3, 1) := by decide +kernel
theorem dX1_extreme_13 : decode cX1_extreme 13 = .ok (.isub, 1) := by decide +kernel
theorem dX1_extreme_14 : decode cX1_extreme 14 = .ok (.goto 4, 3) := by decide +kernel
theorem dX1_extreme_17 : decode cX1_extreme 17 = .ok (.iload_n 3, 1) := by decide +kernel
theorem dX1_extreme_18 : decode cX1_extreme 18 = .ok (.istore 4, 2) := by decide +kernel
theorem dX1_extreme_20 : decode cX1_extreme 20 = .ok (.aload_n 0, 1) := by decide +kernel
theorem dX1_extreme_21 : decode cX1_extreme 21 = .ok (.iload_n 1, 1) := by decide +kernel
theorem dX1_extreme_22 : decode cX1_extreme 22 = .ok (.iload 4, 2) := by decide +kernel
theorem dX1_extreme_24 : decode cX1_extreme 24 = .ok (.invokevirtual 83, 3) := by decide +kernel
theorem dX1_extreme_27 : decode cX1_extreme 27 = .ok (.lconst 0, 1) := by decide +kernel
theorem dX1_extreme_28 : decode cX1_extreme 28 = .ok (.lcmp, 1) := by decide +kernel
theorem dX1_extreme_29 : decode cX1_extreme 29 = .ok (.ifCond .le 6, 3) := by decide +kernel
theorem dX1_extreme_32 : decode cX1_extreme 32 = .ok (.iload 4, 2) := by decide +kernel
theorem dX1_extreme_34 : decode cX1_extreme 34 = .ok (.ireturn, 1) := by decide +kernel
theorem dX1_extreme_35 : decode cX1_extreme 35 = .ok (.iinc 3 1, 3) := by decide +kernel
theorem dX1_extreme_38 : decode cX1_extreme 38 = .ok (.goto (-36), 3) := by decide +kernel
theorem dX1_extreme_41 : decode cX1_extreme 41 = .ok (.bipush (-9), 2) := by decide +kernel
theorem dX1_extreme_43 : decode cX1_extreme 43 = .ok (.ireturn, 1) := by decide +kernel
set_option maxRecDepth 20000 in
theorem ggX1_mostCubes_X2_cells : GoodIn wsX1_mostCubes wsX2_cells := goodIn_r _ [7, 8, 9, 29, 30, 31, 32, 33] (by decide +kernel) (by decide +kernel)
set_option maxRecDepth 20000 in
theorem gX1_mostCubes_X2_cells : GoodIn wsX1_mostCubes (wsV RX1 87 RX2 yX2_cells wsX2_cells) := goodIn_app (goodIn_of _ (by decide +kernel)) ggX1_mostCubes_X2_cells
set_option maxRecDepth 20000 in
theorem ggX1_mostCubes_X1_highestOf : GoodIn wsX1_mostCubes wsX1_highestOf := goodIn_r _ [13, 14, 15, 16, 17, 18] (by decide +kernel) (by decide +kernel)
set_option maxRecDepth 20000 in
theorem gX1_mostCubes_X1_highestOf : GoodIn wsX1_mostCubes (va_wsS RX1 92 yX1_highestOf wsX1_highestOf) := goodIn_app (goodIn_of _ (by decide +kernel)) ggX1_mostCubes_X1_highestOf
theorem dX1_mostCubes_0 : decode cX1_mostCubes 0 = .ok (.iconst 0, 1) := by decide +kernel
theorem dX1_mostCubes_1 : decode cX1_mostCubes 1 = .ok (.istore_n 1, 1) := by decide +kernel
theorem dX1_mostCubes_2 : decode cX1_mostCubes 2 = .ok (.iconst 0, 1) := by decide +kernel
theorem dX1_mostCubes_3 : decode cX1_mostCubes 3 = .ok (.istore_n 2, 1) := by decide +kernel
theorem dX1_mostCubes_4 : decode cX1_mostCubes 4 = .ok (.iload_n 2, 1) := by decide +kernel
theorem dX1_mostCubes_5 : decode cX1_mostCubes 5 = .ok (.aload_n 0, 1) := by decide +kernel
theorem dX1_mostCubes_6 : decode cX1_mostCubes 6 = .ok (.getfield 39, 3) := by decide +kernel
theorem dX1_mostCubes_9 : decode cX1_mostCubes 9 = .ok (.invokevirtual 87, 3) := by decide +kernel
theorem dX1_mostCubes_12 : decode cX1_mostCubes 12 = .ok (.if_icmp .ge 21, 3) := by decide +kernel
theorem dX1_mostCubes_15 : decode cX1_mostCubes 15 = .ok (.iload_n 1, 1) := by decide +kernel
theorem dX1_mostCubes_16 : decode cX1_mostCubes 16 = .ok (.aload_n 0, 1) := by decide +kernel
theorem dX1_mostCubes_17 : decode cX1_mostCubes 17 = .ok (.getfield 9, 3) := by decide +kernel
theorem dX1_mostCubes_20 : decode cX1_mostCubes 20 = .ok (.iload_n 2, 1) := by decide +kernel
theorem dX1_mostCubes_21 : decode cX1_mostCubes 21 = .ok (.iaload, 1) := by decide +kernel
theorem dX1_mostCubes_22 : decode cX1_mostCubes 22 = .ok (.invokestatic 92, 3) := by decide +kernel
theorem dX1_mostCubes_25 : decode cX1_mostCubes 25 = .ok (.iadd, 1) := by decide +kernel
theorem dX1_mostCubes_26 : decode cX1_mostCubes 26 = .ok (.istore_n 1, 1) := by decide +kernel
theorem dX1_mostCubes_27 : decode cX1_mostCubes 27 = .ok (.iinc 2 1, 3) := by decide +kernel
theorem dX1_mostCubes_30 : decode cX1_mostCubes 30 = .ok (.goto (-26), 3) := by decide +kernel
theorem dX1_mostCubes_33 : decode cX1_mostCubes 33 = .ok (.iload_n 1, 1) := by decide +kernel
theorem dX1_mostCubes_34 : decode cX1_mostCubes 34 = .ok (.ireturn, 1) := by decide +kernel
set_option maxRecDepth 20000 in
theorem ggX1_fewestCubes_J7_fill_53178 : GoodIn wsX1_fewestCubes wsJ7_fill_53178 := goodIn_r _ [7] (by decide +kernel) (by decide +kernel)
set_option maxRecDepth 20000 in
theorem gX1_fewestCubes_J7_fill_53178 : GoodIn wsX1_fewestCubes (va_wsS RX1 96 yJ7_fill_53178 wsJ7_fill_53178) := goodIn_app (goodIn_of _ (by decide +kernel)) ggX1_fewestCubes_J7_fill_53178
set_option maxRecDepth 20000 in
theorem ggX1_fewestCubes_X2_cells : GoodIn wsX1_fewestCubes wsX2_cells := goodIn_r _ [12, 13, 14, 74, 75, 76, 77, 78] (by decide +kernel) (by decide +kernel)
set_option maxRecDepth 20000 in
theorem gX1_fewestCubes_X2_cells : GoodIn wsX1_fewestCubes (wsV RX1 87 RX2 yX2_cells wsX2_cells) := goodIn_app (goodIn_of _ (by decide +kernel)) ggX1_fewestCubes_X2_cells
set_option maxRecDepth 20000 in
theorem ggX1_fewestCubes_X1_addFewest : GoodIn wsX1_fewestCubes wsX1_addFewest := goodIn_r _ [19, 1, 3, 20, 21, 22, 23, 24, 25, 26, 18, 27, 28, 29, 30, 31, 32, 33, 34, 35, 36, 37, 38, 39, 2, 40, 41, 42, 11, 43, 44, 45, 46, 47, 48, 49, 50, 51, 52, 13, 14, 53, 54, 55, 56, 57, 58, 59, 64, 65, 66, 67, 68, 69, 70, 71, 72, 73, 74, 75, 76, 77, 78] (by decide +kernel) (by decide +kernel)
set_option maxRecDepth 20000 in
theorem gX1_fewestCubes_X1_addFewest : GoodIn wsX1_fewestCubes (wsV RX1 102 RX1 yX1_addFewest wsX1_addFewest) := goodIn_app (goodIn_of _ (by decide +kernel)) ggX1_fewestCubes_X1_addFewest
set_option maxRecDepth 20000 in
theorem ggX1_fewestCubes_X1_allMet : GoodIn wsX1_fewestCubes wsX1_allMet := goodIn_r _ [63, 53, 54, 55, 18, 56, 2, 49, 50, 51, 11, 52, 13, 14, 64, 65, 66, 67, 68, 69, 70, 71, 72, 73, 74, 75, 76, 77, 78] (by decide +kernel) (by decide +kernel)
set_option maxRecDepth 20000 in
theorem gX1_fewestCubes_X1_allMet : GoodIn wsX1_fewestCubes (wsV RX1 106 RX1 yX1_allMet wsX1_allMet) := goodIn_app (goodIn_of _ (by decide +kernel)) ggX1_fewestCubes_X1_allMet
theorem dX1_fewestCubes_0 : decode cX1_fewestCubes 0 = .ok (.aload_n 0, 1) := by decide +kernel
theorem dX1_fewestCubes_1 : decode cX1_fewestCubes 1 = .ok (.getfield 29, 3) := by decide +kernel
theorem dX1_fewestCubes_4 : decode cX1_fewestCubes 4 = .ok (.sipush 1000, 3) := by decide +kernel
theorem dX1_fewestCubes_7 : decode cX1_fewestCubes 7 = .ok (.invokestatic 96, 3) := by decide +kernel
theorem dX1_fewestCubes_10 : decode cX1_fewestCubes 10 = .ok (.aload_n 0, 1) := by decide +kernel
theorem dX1_fewestCubes_11 : decode cX1_fewestCubes 11 = .ok (.getfield 29, 3) := by decide +kernel
theorem dX1_fewestCubes_14 : decode cX1_fewestCubes 14 = .ok (.iconst 0, 1) := by decide +kernel
theorem dX1_fewestCubes_15 : decode cX1_fewestCubes 15 = .ok (.iconst 0, 1) := by decide +kernel
theorem dX1_fewestCubes_16 : decode cX1_fewestCubes 16 = .ok (.iastore, 1) := by decide +kernel
theorem dX1_fewestCubes_17 : decode cX1_fewestCubes 17 = .ok (.iconst 0, 1) := by decide +kernel
theorem dX1_fewestCubes_18 : decode cX1_fewestCubes 18 = .ok (.istore_n 1, 1) := by decide +kernel
theorem dX1_fewestCubes_19 : decode cX1_fewestCubes 19 = .ok (.iload_n 1, 1) := by decide +kernel
theorem dX1_fewestCubes_20 : decode cX1_fewestCubes 20 = .ok (.aload_n 0, 1) := by decide +kernel
theorem dX1_fewestCubes_21 : decode cX1_fewestCubes 21 = .ok (.getfield 39, 3) := by decide +kernel
theorem dX1_fewestCubes_24 : decode cX1_fewestCubes 24 = .ok (.invokevirtual 87, 3) := by decide +kernel
theorem dX1_fewestCubes_27 : decode cX1_fewestCubes 27 = .ok (.if_icmp .ge 56, 3) := by decide +kernel
theorem dX1_fewestCubes_30 : decode cX1_fewestCubes 30 = .ok (.aload_n 0, 1) := by decide +kernel
theorem dX1_fewestCubes_31 : decode cX1_fewestCubes 31 = .ok (.getfield 32, 3) := by decide +kernel
theorem dX1_fewestCubes_34 : decode cX1_fewestCubes 34 = .ok (.sipush 1000, 3) := by decide +kernel
theorem dX1_fewestCubes_37 : decode cX1_fewestCubes 37 = .ok (.invokestatic 96, 3) := by decide +kernel
theorem dX1_fewestCubes_40 : decode cX1_fewestCubes 40 = .ok (.iconst 0, 1) := by decide +kernel
theorem dX1_fewestCubes_41 : decode cX1_fewestCubes 41 = .ok (.istore_n 2, 1) := by decide +kernel
theorem dX1_fewestCubes_42 : decode cX1_fewestCubes 42 = .ok (.iload_n 2, 1) := by decide +kernel
theorem dX1_fewestCubes_43 : decode cX1_fewestCubes 43 = .ok (.iconst 4, 1) := by decide +kernel
theorem dX1_fewestCubes_44 : decode cX1_fewestCubes 44 = .ok (.if_icmp .ge 15, 3) := by decide +kernel
theorem dX1_fewestCubes_47 : decode cX1_fewestCubes 47 = .ok (.aload_n 0, 1) := by decide +kernel
theorem dX1_fewestCubes_48 : decode cX1_fewestCubes 48 = .ok (.iload_n 1, 1) := by decide +kernel
theorem dX1_fewestCubes_49 : decode cX1_fewestCubes 49 = .ok (.iload_n 2, 1) := by decide +kernel
theorem dX1_fewestCubes_50 : decode cX1_fewestCubes 50 = .ok (.invokevirtual 102, 3) := by decide +kernel
theorem dX1_fewestCubes_53 : decode cX1_fewestCubes 53 = .ok (.iinc 2 1, 3) := by decide +kernel
theorem dX1_fewestCubes_56 : decode cX1_fewestCubes 56 = .ok (.goto (-14), 3) := by decide +kernel
theorem dX1_fewestCubes_59 : decode cX1_fewestCubes 59 = .ok (.aload_n 0, 1) := by decide +kernel
theorem dX1_fewestCubes_60 : decode cX1_fewestCubes 60 = .ok (.getfield 29, 3) := by decide +kernel
theorem dX1_fewestCubes_63 : decode cX1_fewestCubes 63 = .ok (.astore_n 2, 1) := by decide +kernel
theorem dX1_fewestCubes_64 : decode cX1_fewestCubes 64 = .ok (.aload_n 0, 1) := by decide +kernel
theorem dX1_fewestCubes_65 : decode cX1_fewestCubes 65 = .ok (.aload_n 0, 1) := by decide +kernel
theorem dX1_fewestCubes_66 : decode cX1_fewestCubes 66 = .ok (.getfield 32, 3) := by decide +kernel
theorem dX1_fewestCubes_69 : decode cX1_fewestCubes 69 = .ok (.putfield 29, 3) := by decide +kernel
theorem dX1_fewestCubes_72 : decode cX1_fewestCubes 72 = .ok (.aload_n 0, 1) := by decide +kernel
theorem dX1_fewestCubes_73 : decode cX1_fewestCubes 73 = .ok (.aload_n 2, 1) := by decide +kernel
theorem dX1_fewestCubes_74 : decode cX1_fewestCubes 74 = .ok (.putfield 32, 3) := by decide +kernel
theorem dX1_fewestCubes_77 : decode cX1_fewestCubes 77 = .ok (.iinc 1 1, 3) := by decide +kernel
theorem dX1_fewestCubes_80 : decode cX1_fewestCubes 80 = .ok (.goto (-61), 3) := by decide +kernel
theorem dX1_fewestCubes_83 : decode cX1_fewestCubes 83 = .ok (.aload_n 0, 1) := by decide +kernel
theorem dX1_fewestCubes_84 : decode cX1_fewestCubes 84 = .ok (.getfield 29, 3) := by decide +kernel
theorem dX1_fewestCubes_87 : decode cX1_fewestCubes 87 = .ok (.aload_n 0, 1) := by decide +kernel
theorem dX1_fewestCubes_88 : decode cX1_fewestCubes 88 = .ok (.invokevirtual 106, 3) := by decide +kernel
theorem dX1_fewestCubes_91 : decode cX1_fewestCubes 91 = .ok (.iaload, 1) := by decide +kernel
theorem dX1_fewestCubes_92 : decode cX1_fewestCubes 92 = .ok (.ireturn, 1) := by decide +kernel
set_option maxRecDepth 20000 in
theorem ggX1_addFewest_X1_heightsOf : GoodIn wsX1_addFewest wsX1_heightsOf := goodIn_r _ [11, 12, 13, 14, 48, 49, 50, 51, 52, 53, 54, 55, 56, 57] (by decide +kernel) (by decide +kernel)
set_option maxRecDepth 20000 in
theorem gX1_addFewest_X1_heightsOf : GoodIn wsX1_addFewest (wsV RX1 109 RX1 yX1_heightsOf wsX1_heightsOf) := goodIn_app (goodIn_of _ (by decide +kernel)) ggX1_addFewest_X1_heightsOf
set_option maxRecDepth 20000 in
theorem ggX1_addFewest_J6_numberOfTrailingZeros_0f7a4 : GoodIn wsX1_addFewest wsJ6_numberOfTrailingZeros_0f7a4 := goodIn_r _ [18, 19] (by decide +kernel) (by decide +kernel)
set_option maxRecDepth 20000 in
theorem gX1_addFewest_J6_numberOfTrailingZeros_0f7a4 : GoodIn wsX1_addFewest (va_wsS RX1 112 yJ6_numberOfTrailingZeros_0f7a4 wsJ6_numberOfTrailingZeros_0f7a4) := goodIn_app (goodIn_of _ (by decide +kernel)) ggX1_addFewest_J6_numberOfTrailingZeros_0f7a4
set_option maxRecDepth 20000 in
theorem ggX1_addFewest_X1_linesMet : GoodIn wsX1_addFewest wsX1_linesMet := goodIn_r _ [23, 24, 25, 26, 27, 28, 29, 30, 48, 49, 50, 51, 52, 53, 54, 55, 56, 57, 58, 59, 60, 61, 62] (by decide +kernel) (by decide +kernel)
set_option maxRecDepth 20000 in
theorem gX1_addFewest_X1_linesMet : GoodIn wsX1_addFewest (wsV RX1 69 RX1 yX1_linesMet wsX1_linesMet) := goodIn_app (goodIn_of _ (by decide +kernel)) ggX1_addFewest_X1_linesMet
set_option maxRecDepth 20000 in
theorem ggX1_addFewest_X1_endsRow : GoodIn wsX1_addFewest wsX1_endsRow := goodIn_r _ [34, 24, 25, 26, 27, 28, 29, 30, 35, 36, 37, 38, 39, 40, 48, 49, 50, 51, 52, 53, 54, 55, 56, 57, 58, 59, 60, 61, 62] (by decide +kernel) (by decide +kernel)
set_option maxRecDepth 20000 in
theorem gX1_addFewest_X1_endsRow : GoodIn wsX1_addFewest (wsV RX1 72 RX1 yX1_endsRow wsX1_endsRow) := goodIn_app (goodIn_of _ (by decide +kernel)) ggX1_addFewest_X1_endsRow
set_option maxRecDepth 20000 in
theorem ggX1_addFewest_X1_states : GoodIn wsX1_addFewest wsX1_states := goodIn_r _ [44, 24, 35, 36, 37, 28, 38, 39, 40, 48, 49, 50, 51, 52, 53, 54, 55, 56, 57, 58, 59, 60, 61, 62] (by decide +kernel) (by decide +kernel)
set_option maxRecDepth 20000 in
theorem gX1_addFewest_X1_states : GoodIn wsX1_addFewest (wsV RX1 76 RX1 yX1_states wsX1_states) := goodIn_app (goodIn_of _ (by decide +kernel)) ggX1_addFewest_X1_states
set_option maxRecDepth 20000 in
theorem ggX1_addFewest_X1_after : GoodIn wsX1_addFewest wsX1_after := goodIn_r _ [47] (by decide +kernel) (by decide +kernel)
set_option maxRecDepth 20000 in
theorem gX1_addFewest_X1_after : GoodIn wsX1_addFewest (va_wsS RX1 79 yX1_after wsX1_after) := goodIn_app (goodIn_of _ (by decide +kernel)) ggX1_addFewest_X1_after
theorem dX1_addFewest_0 : decode cX1_addFewest 0 = .ok (.aload_n 0, 1) := by decide +kernel
theorem dX1_addFewest_1 : decode cX1_addFewest 1 = .ok (.iload_n 1, 1) := by decide +kernel
theorem dX1_addFewest_2 : decode cX1_addFewest 2 = .ok (.iload_n 2, 1) := by decide +kernel
theorem dX1_addFewest_3 : decode cX1_addFewest 3 = .ok (.invokevirtual 109, 3) := by decide +kernel
theorem dX1_addFewest_6 : decode cX1_addFewest 6 = .ok (.istore_n 3, 1) := by decide +kernel
theorem dX1_addFewest_7 : decode cX1_addFewest 7 = .ok (.iload_n 3, 1) := by decide +kernel
theorem dX1_addFewest_8 : decode cX1_addFewest 8 = .ok (.ifCond .ne 4, 3) := by decide +kernel
theorem dX1_addFewest_11 : decode cX1_addFewest 11 = .ok (.return_, 1) := by decide +kernel
theorem dX1_addFewest_12 : decode cX1_addFewest 12 = .ok (.iload_n 3, 1) := by decide +kernel
theorem dX1_addFewest_13 : decode cX1_addFewest 13 = .ok (.invokestatic 112, 3) := by decide +kernel
theorem dX1_addFewest_16 : decode cX1_addFewest 16 = .ok (.istore 4, 2) := by decide +kernel
theorem dX1_addFewest_18 : decode cX1_addFewest 18 = .ok (.aload_n 0, 1) := by decide +kernel
theorem dX1_addFewest_19 : decode cX1_addFewest 19 = .ok (.iload_n 1, 1) := by decide +kernel
theorem dX1_addFewest_20 : decode cX1_addFewest 20 = .ok (.iload_n 2, 1) := by decide +kernel
theorem dX1_addFewest_21 : decode cX1_addFewest 21 = .ok (.invokevirtual 69, 3) := by decide +kernel
theorem dX1_addFewest_24 : decode cX1_addFewest 24 = .ok (.istore 5, 2) := by decide +kernel
theorem dX1_addFewest_26 : decode cX1_addFewest 26 = .ok (.aload_n 0, 1) := by decide +kernel
theorem dX1_addFewest_27 : decode cX1_addFewest 27 = .ok (.iload_n 1, 1) := by decide +kernel
theorem dX1_addFewest_28 : decode cX1_addFewest 28 = .ok (.invokevirtual 72, 3) := by decide +kernel
theorem dX1_addFewest_31 : decode cX1_addFewest 31 = .ok (.istore 6, 2) := by decide +kernel
theorem dX1_addFewest_33 : decode cX1_addFewest 33 = .ok (.aload_n 0, 1) := by decide +kernel
theorem dX1_addFewest_34 : decode cX1_addFewest 34 = .ok (.invokevirtual 76, 3) := by decide +kernel
theorem dX1_addFewest_37 : decode cX1_addFewest 37 = .ok (.istore 7, 2) := by decide +kernel
theorem dX1_addFewest_39 : decode cX1_addFewest 39 = .ok (.iconst 0, 1) := by decide +kernel
theorem dX1_addFewest_40 : decode cX1_addFewest 40 = .ok (.istore 8, 2) := by decide +kernel
theorem dX1_addFewest_42 : decode cX1_addFewest 42 = .ok (.iload 8, 2) := by decide +kernel
theorem dX1_addFewest_44 : decode cX1_addFewest 44 = .ok (.iload 7, 2) := by decide +kernel
theorem dX1_addFewest_46 : decode cX1_addFewest 46 = .ok (.if_icmp .ge 70, 3) := by decide +kernel
theorem dX1_addFewest_49 : decode cX1_addFewest 49 = .ok (.aload_n 0, 1) := by decide +kernel
theorem dX1_addFewest_50 : decode cX1_addFewest 50 = .ok (.getfield 29, 3) := by decide +kernel
theorem dX1_addFewest_53 : decode cX1_addFewest 53 = .ok (.iload 8, 2) := by decide +kernel
theorem dX1_addFewest_55 : decode cX1_addFewest 55 = .ok (.iaload, 1) := by decide +kernel
theorem dX1_addFewest_56 : decode cX1_addFewest 56 = .ok (.sipush 1000, 3) := by decide +kernel
theorem dX1_addFewest_59 : decode cX1_addFewest 59 = .ok (.if_icmp .ne 6, 3) := by decide +kernel
theorem dX1_addFewest_62 : decode cX1_addFewest 62 = .ok (.goto 48, 3) := by decide +kernel
theorem dX1_addFewest_65 : decode cX1_addFewest 65 = .ok (.iload 8, 2) := by decide +kernel
theorem dX1_addFewest_67 : decode cX1_addFewest 67 = .ok (.iload 5, 2) := by decide +kernel
theorem dX1_addFewest_69 : decode cX1_addFewest 69 = .ok (.ior, 1) := by decide +kernel
theorem dX1_addFewest_70 : decode cX1_addFewest 70 = .ok (.iload 6, 2) := by decide +kernel
theorem dX1_addFewest_72 : decode cX1_addFewest 72 = .ok (.invokestatic 79, 3) := by decide +kernel
theorem dX1_addFewest_75 : decode cX1_addFewest 75 = .ok (.istore 9, 2) := by decide +kernel
theorem dX1_addFewest_77 : decode cX1_addFewest 77 = .ok (.iload 9, 2) := by decide +kernel
theorem dX1_addFewest_79 : decode cX1_addFewest 79 = .ok (.iconst (-1), 1) := by decide +kernel
theorem dX1_addFewest_80 : decode cX1_addFewest 80 = .ok (.if_icmp .eq 30, 3) := by decide +kernel
theorem dX1_addFewest_83 : decode cX1_addFewest 83 = .ok (.aload_n 0, 1) := by decide +kernel
theorem dX1_addFewest_84 : decode cX1_addFewest 84 = .ok (.getfield 32, 3) := by decide +kernel
theorem dX1_addFewest_87 : decode cX1_addFewest 87 = .ok (.iload 9, 2) := by decide +kernel
theorem dX1_addFewest_89 : decode cX1_addFewest 89 = .ok (.aload_n 0, 1) := by decide +kernel
theorem dX1_addFewest_90 : decode cX1_addFewest 90 = .ok (.getfield 32, 3) := by decide +kernel
theorem dX1_addFewest_93 : decode cX1_addFewest 93 = .ok (.iload 9, 2) := by decide +kernel
theorem dX1_addFewest_95 : decode cX1_addFewest 95 = .ok (.iaload, 1) := by decide +kernel
theorem dX1_addFewest_96 : decode cX1_addFewest 96 = .ok (.aload_n 0, 1) := by decide +kernel
theorem dX1_addFewest_97 : decode cX1_addFewest 97 = .ok (.getfield 29, 3) := by decide +kernel
theorem dX1_addFewest_100 : decode cX1_addFewest 100 = .ok (.iload 8, 2) := by decide +kernel
theorem dX1_addFewest_102 : decode cX1_addFewest 102 = .ok (.iaload, 1) := by decide +kernel
theorem dX1_addFewest_103 : decode cX1_addFewest 103 = .ok (.iload 4, 2) := by decide +kernel
theorem dX1_addFewest_105 : decode cX1_addFewest 105 = .ok (.iadd, 1) := by decide +kernel
theorem dX1_addFewest_106 : decode cX1_addFewest 106 = .ok (.invokestatic 117, 3) := by decide +kernel
theorem dX1_addFewest_109 : decode cX1_addFewest 109 = .ok (.iastore, 1) := by decide +kernel
theorem dX1_addFewest_110 : decode cX1_addFewest 110 = .ok (.iinc 8 1, 3) := by decide +kernel
theorem dX1_addFewest_113 : decode cX1_addFewest 113 = .ok (.goto (-71), 3) := by decide +kernel
theorem dX1_addFewest_116 : decode cX1_addFewest 116 = .ok (.return_, 1) := by decide +kernel
set_option maxRecDepth 20000 in
theorem ggX1_fill_X2_cells : GoodIn wsX1_fill wsX2_cells := goodIn_r _ [10, 11, 12, 63, 64, 65, 66, 67] (by decide +kernel) (by decide +kernel)
set_option maxRecDepth 20000 in
theorem gX1_fill_X2_cells : GoodIn wsX1_fill (wsV RX1 87 RX2 yX2_cells wsX2_cells) := goodIn_app (goodIn_of _ (by decide +kernel)) ggX1_fill_X2_cells
set_option maxRecDepth 20000 in
theorem ggX1_fill_X1_waysFrom : GoodIn wsX1_fill wsX1_waysFrom := goodIn_r _ [17, 18, 19, 20, 21, 16, 22, 23, 24, 25, 26, 27, 28, 29, 30, 31, 32, 33, 34, 35, 36, 1, 37, 38, 39, 9, 40, 41, 42, 43, 44, 45, 46, 47, 48, 49, 11, 12, 50, 51, 52, 53, 54, 55, 56, 57, 58, 59, 60, 61, 62, 63, 64, 65, 66, 67] (by decide +kernel) (by decide +kernel)
set_option maxRecDepth 20000 in
theorem gX1_fill_X1_waysFrom : GoodIn wsX1_fill (wsV RX1 122 RX1 yX1_waysFrom wsX1_waysFrom) := goodIn_app (goodIn_of _ (by decide +kernel)) ggX1_fill_X1_waysFrom
set_option maxRecDepth 20000 in
theorem ggX1_fill_X1_afterHeight : GoodIn wsX1_fill wsX1_afterHeight := goodIn_r _ [26, 27, 28, 29, 16, 30, 31, 32, 20, 21, 22, 33, 34, 35, 36, 1, 37, 38, 39, 9, 40, 41, 42, 43, 44, 45, 46, 47, 48, 49, 11, 12, 50, 51, 52, 53, 54, 55, 56, 57, 58, 59, 60, 61, 62, 63, 64, 65, 66, 67] (by decide +kernel) (by decide +kernel)
set_option maxRecDepth 20000 in
theorem gX1_fill_X1_afterHeight : GoodIn wsX1_fill (wsV RX1 126 RX1 yX1_afterHeight wsX1_afterHeight) := goodIn_app (goodIn_of _ (by decide +kernel)) ggX1_fill_X1_afterHeight
theorem dX1_fill_0 : decode cX1_fill 0 = .ok (.iconst 0, 1) := by decide +kernel
theorem dX1_fill_1 : decode cX1_fill 1 = .ok (.istore 4, 2) := by decide +kernel
theorem dX1_fill_3 : decode cX1_fill 3 = .ok (.lload_n 2, 1) := by decide +kernel
theorem dX1_fill_4 : decode cX1_fill 4 = .ok (.lstore 5, 2) := by decide +kernel
theorem dX1_fill_6 : decode cX1_fill 6 = .ok (.iconst 0, 1) := by decide +kernel
theorem dX1_fill_7 : decode cX1_fill 7 = .ok (.istore 7, 2) := by decide +kernel
theorem dX1_fill_9 : decode cX1_fill 9 = .ok (.iload 7, 2) := by decide +kernel
theorem dX1_fill_11 : decode cX1_fill 11 = .ok (.aload_n 0, 1) := by decide +kernel
theorem dX1_fill_12 : decode cX1_fill 12 = .ok (.getfield 39, 3) := by decide +kernel
theorem dX1_fill_15 : decode cX1_fill 15 = .ok (.invokevirtual 87, 3) := by decide +kernel
theorem dX1_fill_18 : decode cX1_fill 18 = .ok (.if_icmp .ge 85, 3) := by decide +kernel
theorem dX1_fill_21 : decode cX1_fill 21 = .ok (.iconst 0, 1) := by decide +kernel
theorem dX1_fill_22 : decode cX1_fill 22 = .ok (.istore 8, 2) := by decide +kernel
theorem dX1_fill_24 : decode cX1_fill 24 = .ok (.aload_n 0, 1) := by decide +kernel
theorem dX1_fill_25 : decode cX1_fill 25 = .ok (.iload 7, 2) := by decide +kernel
theorem dX1_fill_27 : decode cX1_fill 27 = .ok (.iload 4, 2) := by decide +kernel
theorem dX1_fill_29 : decode cX1_fill 29 = .ok (.iload 8, 2) := by decide +kernel
theorem dX1_fill_31 : decode cX1_fill 31 = .ok (.invokevirtual 122, 3) := by decide +kernel
theorem dX1_fill_34 : decode cX1_fill 34 = .ok (.lstore 9, 2) := by decide +kernel
theorem dX1_fill_36 : decode cX1_fill 36 = .ok (.lload 5, 2) := by decide +kernel
theorem dX1_fill_38 : decode cX1_fill 38 = .ok (.lload 9, 2) := by decide +kernel
theorem dX1_fill_40 : decode cX1_fill 40 = .ok (.lcmp, 1) := by decide +kernel
theorem dX1_fill_41 : decode cX1_fill 41 = .ok (.ifCond .lt 34, 3) := by decide +kernel
theorem dX1_fill_44 : decode cX1_fill 44 = .ok (.iload 8, 2) := by decide +kernel
theorem dX1_fill_46 : decode cX1_fill 46 = .ok (.iconst 4, 1) := by decide +kernel
theorem dX1_fill_47 : decode cX1_fill 47 = .ok (.if_icmp .ge 28, 3) := by decide +kernel
theorem dX1_fill_50 : decode cX1_fill 50 = .ok (.lload 5, 2) := by decide +kernel
theorem dX1_fill_52 : decode cX1_fill 52 = .ok (.lload 9, 2) := by decide +kernel
theorem dX1_fill_54 : decode cX1_fill 54 = .ok (.lsub, 1) := by decide +kernel
theorem dX1_fill_55 : decode cX1_fill 55 = .ok (.lstore 5, 2) := by decide +kernel
theorem dX1_fill_57 : decode cX1_fill 57 = .ok (.iinc 8 1, 3) := by decide +kernel
theorem dX1_fill_60 : decode cX1_fill 60 = .ok (.aload_n 0, 1) := by decide +kernel
theorem dX1_fill_61 : decode cX1_fill 61 = .ok (.iload 7, 2) := by decide +kernel
theorem dX1_fill_63 : decode cX1_fill 63 = .ok (.iload 4, 2) := by decide +kernel
theorem dX1_fill_65 : decode cX1_fill 65 = .ok (.iload 8, 2) := by decide +kernel
theorem dX1_fill_67 : decode cX1_fill 67 = .ok (.invokevirtual 122, 3) := by decide +kernel
theorem dX1_fill_70 : decode cX1_fill 70 = .ok (.lstore 9, 2) := by decide +kernel
theorem dX1_fill_72 : decode cX1_fill 72 = .ok (.goto (-36), 3) := by decide +kernel
theorem dX1_fill_75 : decode cX1_fill 75 = .ok (.aload_n 1, 1) := by decide +kernel
theorem dX1_fill_76 : decode cX1_fill 76 = .ok (.iload 7, 2) := by decide +kernel
theorem dX1_fill_78 : decode cX1_fill 78 = .ok (.iload 8, 2) := by decide +kernel
theorem dX1_fill_80 : decode cX1_fill 80 = .ok (.iastore, 1) := by decide +kernel
theorem dX1_fill_81 : decode cX1_fill 81 = .ok (.iconst 0, 1) := by decide +kernel
theorem dX1_fill_82 : decode cX1_fill 82 = .ok (.aload_n 0, 1) := by decide +kernel
theorem dX1_fill_83 : decode cX1_fill 83 = .ok (.iload 7, 2) := by decide +kernel
theorem dX1_fill_85 : decode cX1_fill 85 = .ok (.iload 4, 2) := by decide +kernel
theorem dX1_fill_87 : decode cX1_fill 87 = .ok (.iload 8, 2) := by decide +kernel
theorem dX1_fill_89 : decode cX1_fill 89 = .ok (.invokevirtual 126, 3) := by decide +kernel
theorem dX1_fill_92 : decode cX1_fill 92 = .ok (.invokestatic 130, 3) := by decide +kernel
theorem dX1_fill_95 : decode cX1_fill 95 = .ok (.istore 4, 2) := by decide +kernel
theorem dX1_fill_97 : decode cX1_fill 97 = .ok (.iinc 7 1, 3) := by decide +kernel
theorem dX1_fill_100 : decode cX1_fill 100 = .ok (.goto (-91), 3) := by decide +kernel
theorem dX1_fill_103 : decode cX1_fill 103 = .ok (.return_, 1) := by decide +kernel
set_option maxRecDepth 20000 in
theorem ggX1_smaller_X2_cells : GoodIn wsX1_smaller wsX2_cells := goodIn_r _ [10, 11, 12, 63, 64, 65, 66, 67] (by decide +kernel) (by decide +kernel)
set_option maxRecDepth 20000 in
theorem gX1_smaller_X2_cells : GoodIn wsX1_smaller (wsV RX1 87 RX2 yX2_cells wsX2_cells) := goodIn_app (goodIn_of _ (by decide +kernel)) ggX1_smaller_X2_cells
set_option maxRecDepth 20000 in
theorem ggX1_smaller_X1_waysFrom : GoodIn wsX1_smaller wsX1_waysFrom := goodIn_r _ [17, 18, 19, 20, 21, 16, 22, 23, 24, 25, 26, 27, 28, 29, 30, 31, 32, 33, 34, 35, 36, 1, 37, 38, 39, 9, 40, 41, 42, 43, 44, 45, 46, 47, 48, 49, 11, 12, 50, 51, 52, 53, 54, 55, 56, 57, 58, 59, 60, 61, 62, 63, 64, 65, 66, 67] (by decide +kernel) (by decide +kernel)
set_option maxRecDepth 20000 in
theorem gX1_smaller_X1_waysFrom : GoodIn wsX1_smaller (wsV RX1 122 RX1 yX1_waysFrom wsX1_waysFrom) := goodIn_app (goodIn_of _ (by decide +kernel)) ggX1_smaller_X1_waysFrom
set_option maxRecDepth 20000 in
theorem ggX1_smaller_X1_afterHeight : GoodIn wsX1_smaller wsX1_afterHeight := goodIn_r _ [26, 27, 28, 29, 16, 30, 31, 32, 20, 21, 22, 33, 34, 35, 36, 1, 37, 38, 39, 9, 40, 41, 42, 43, 44, 45, 46, 47, 48, 49, 11, 12, 50, 51, 52, 53, 54, 55, 56, 57, 58, 59, 60, 61, 62, 63, 64, 65, 66, 67] (by decide +kernel) (by decide +kernel)
set_option maxRecDepth 20000 in
theorem gX1_smaller_X1_afterHeight : GoodIn wsX1_smaller (wsV RX1 126 RX1 yX1_afterHeight wsX1_afterHeight) := goodIn_app (goodIn_of _ (by decide +kernel)) ggX1_smaller_X1_afterHeight
theorem dX1_smaller_0 : decode cX1_smaller 0 = .ok (.iconst 0, 1) := by decide +kernel
theorem dX1_smaller_1 : decode cX1_smaller 1 = .ok (.istore_n 2, 1) := by decide +kernel
theorem dX1_smaller_2 : decode cX1_smaller 2 = .ok (.lconst 0, 1) := by decide +kernel
theorem dX1_smaller_3 : decode cX1_smaller 3 = .ok (.lstore_n 3, 1) := by decide +kernel
theorem dX1_smaller_4 : decode cX1_smaller 4 = .ok (.iconst 0, 1) := by decide +kernel
theorem dX1_smaller_5 : decode cX1_smaller 5 = .ok (.istore 5, 2) := by decide +kernel
theorem dX1_smaller_7 : decode cX1_smaller 7 = .ok (.iload 5, 2) := by decide +kernel
theorem dX1_smaller_9 : decode cX1_smaller 9 = .ok (.aload_n 0, 1) := by decide +kernel
theorem dX1_smaller_10 : decode cX1_smaller 10 = .ok (.getfield 39, 3) := by decide +kernel
theorem dX1_smaller_13 : decode cX1_smaller 13 = .ok (.invokevirtual 87, 3) := by decide +kernel
theorem dX1_smaller_16 : decode cX1_smaller 16 = .ok (.if_icmp .ge 55, 3) := by decide +kernel
theorem dX1_smaller_19 : decode cX1_smaller 19 = .ok (.iconst 0, 1) := by decide +kernel
theorem dX1_smaller_20 : decode cX1_smaller 20 = .ok (.istore 6, 2) := by decide +kernel
theorem dX1_smaller_22 : decode cX1_smaller 22 = .ok (.iload 6, 2) := by decide +kernel
theorem dX1_smaller_24 : decode cX1_smaller 24 = .ok (.aload_n 1, 1) := by decide +kernel
theorem dX1_smaller_25 : decode cX1_smaller 25 = .ok (.iload 5, 2) := by decide +kernel
theorem dX1_smaller_27 : decode cX1_smaller 27 = .ok (.iaload, 1) := by decide +kernel
theorem dX1_smaller_28 : decode cX1_smaller 28 = .ok (.if_icmp .ge 21, 3) := by decide +kernel
theorem dX1_smaller_31 : decode cX1_smaller 31 = .ok (.lload_n 3, 1) := by decide +kernel
theorem dX1_smaller_32 : decode cX1_smaller 32 = .ok (.aload_n 0, 1) := by decide +kernel
theorem dX1_smaller_33 : decode cX1_smaller 33 = .ok (.iload 5, 2) := by decide +kernel
theorem dX1_smaller_35 : decode cX1_smaller 35 = .ok (.iload_n 2, 1) := by decide +kernel
theorem dX1_smaller_36 : decode cX1_smaller 36 = .ok (.iload 6, 2) := by decide +kernel
theorem dX1_smaller_38 : decode cX1_smaller 38 = .ok (.invokevirtual 122, 3) := by decide +kernel
theorem dX1_smaller_41 : decode cX1_smaller 41 = .ok (.ladd, 1) := by decide +kernel
theorem dX1_smaller_42 : decode cX1_smaller 42 = .ok (.lstore_n 3, 1) := by decide +kernel
theorem dX1_smaller_43 : decode cX1_smaller 43 = .ok (.iinc 6 1, 3) := by decide +kernel
theorem dX1_smaller_46 : decode cX1_smaller 46 = .ok (.goto (-24), 3) := by decide +kernel
theorem dX1_smaller_49 : decode cX1_smaller 49 = .ok (.iconst 0, 1) := by decide +kernel
theorem dX1_smaller_50 : decode cX1_smaller 50 = .ok (.aload_n 0, 1) := by decide +kernel
theorem dX1_smaller_51 : decode cX1_smaller 51 = .ok (.iload 5, 2) := by decide +kernel
theorem dX1_smaller_53 : decode cX1_smaller 53 = .ok (.iload_n 2, 1) := by decide +kernel
theorem dX1_smaller_54 : decode cX1_smaller 54 = .ok (.aload_n 1, 1) := by decide +kernel
theorem dX1_smaller_55 : decode cX1_smaller 55 = .ok (.iload 5, 2) := by decide +kernel
theorem dX1_smaller_57 : decode cX1_smaller 57 = .ok (.iaload, 1) := by decide +kernel
theorem dX1_smaller_58 : decode cX1_smaller 58 = .ok (.invokevirtual 126, 3) := by decide +kernel
theorem dX1_smaller_61 : decode cX1_smaller 61 = .ok (.invokestatic 130, 3) := by decide +kernel
theorem dX1_smaller_64 : decode cX1_smaller 64 = .ok (.istore_n 2, 1) := by decide +kernel
theorem dX1_smaller_65 : decode cX1_smaller 65 = .ok (.iinc 5 1, 3) := by decide +kernel
theorem dX1_smaller_68 : decode cX1_smaller 68 = .ok (.goto (-61), 3) := by decide +kernel
theorem dX1_smaller_71 : decode cX1_smaller 71 = .ok (.lload_n 3, 1) := by decide +kernel
theorem dX1_smaller_72 : decode cX1_smaller 72 = .ok (.lreturn, 1) := by decide +kernel
set_option maxRecDepth 20000 in
theorem ggX1_waysFrom_X1_has : GoodIn wsX1_waysFrom wsX1_has := goodIn_r _ [6] (by decide +kernel) (by decide +kernel)
set_option maxRecDepth 20000 in
theorem gX1_waysFrom_X1_has : GoodIn wsX1_waysFrom (va_wsS RX1 61 yX1_has wsX1_has) := goodIn_app (goodIn_of _ (by decide +kernel)) ggX1_waysFrom_X1_has
set_option maxRecDepth 20000 in
theorem ggX1_waysFrom_X1_afterHeight : GoodIn wsX1_waysFrom wsX1_afterHeight := goodIn_r _ [10, 11, 12, 13, 5, 14, 15, 16, 3, 4, 6, 17, 18, 19, 20, 21, 22, 23, 24, 25, 26, 27, 28, 29, 30, 31, 32, 33, 34, 35, 36, 37, 38, 39, 40, 41, 42, 43, 44, 45, 46, 47, 48, 49, 50, 51, 52, 53, 54, 55] (by decide +kernel) (by decide +kernel)
set_option maxRecDepth 20000 in
theorem gX1_waysFrom_X1_afterHeight : GoodIn wsX1_waysFrom (wsV RX1 126 RX1 yX1_afterHeight wsX1_afterHeight) := goodIn_app (goodIn_of _ (by decide +kernel)) ggX1_waysFrom_X1_afterHeight
theorem dX1_waysFrom_0 : decode cX1_waysFrom 0 = .ok (.aload_n 0, 1) := by decide +kernel
theorem dX1_waysFrom_1 : decode cX1_waysFrom 1 = .ok (.getfield 9, 3) := by decide +kernel
theorem dX1_waysFrom_4 : decode cX1_waysFrom 4 = .ok (.iload_n 1, 1) := by decide +kernel
theorem dX1_waysFrom_5 : decode cX1_waysFrom 5 = .ok (.iaload, 1) := by decide +kernel
theorem dX1_waysFrom_6 : decode cX1_waysFrom 6 = .ok (.iload_n 3, 1) := by decide +kernel
theorem dX1_waysFrom_7 : decode cX1_waysFrom 7 = .ok (.invokestatic 61, 3) := by decide +kernel
theorem dX1_waysFrom_10 : decode cX1_waysFrom 10 = .ok (.ifCond .ne 5, 3) := by decide +kernel
theorem dX1_waysFrom_13 : decode cX1_waysFrom 13 = .ok (.lconst 0, 1) := by decide +kernel
theorem dX1_waysFrom_14 : decode cX1_waysFrom 14 = .ok (.lreturn, 1) := by decide +kernel
theorem dX1_waysFrom_15 : decode cX1_waysFrom 15 = .ok (.aload_n 0, 1) := by decide +kernel
theorem dX1_waysFrom_16 : decode cX1_waysFrom 16 = .ok (.iload_n 1, 1) := by decide +kernel
theorem dX1_waysFrom_17 : decode cX1_waysFrom 17 = .ok (.iload_n 2, 1) := by decide +kernel
theorem dX1_waysFrom_18 : decode cX1_waysFrom 18 = .ok (.iload_n 3, 1) := by decide +kernel
theorem dX1_waysFrom_19 : decode cX1_waysFrom 19 = .ok (.invokevirtual 126, 3) := by decide +kernel
theorem dX1_waysFrom_22 : decode cX1_waysFrom 22 = .ok (.istore 4, 2) := by decide +kernel
theorem dX1_waysFrom_24 : decode cX1_waysFrom 24 = .ok (.iload 4, 2) := by decide +kernel
theorem dX1_waysFrom_26 : decode cX1_waysFrom 26 = .ok (.iconst (-1), 1) := by decide +kernel
theorem dX1_waysFrom_27 : decode cX1_waysFrom 27 = .ok (.if_icmp .ne 7, 3) := by decide +kernel
theorem dX1_waysFrom_30 : decode cX1_waysFrom 30 = .ok (.lconst 0, 1) := by decide +kernel
theorem dX1_waysFrom_31 : decode cX1_waysFrom 31 = .ok (.goto 14, 3) := by decide +kernel
theorem dX1_waysFrom_34 : decode cX1_waysFrom 34 = .ok (.aload_n 0, 1) := by decide +kernel
theorem dX1_waysFrom_35 : decode cX1_waysFrom 35 = .ok (.getfield 26, 3) := by decide +kernel
theorem dX1_waysFrom_38 : decode cX1_waysFrom 38 = .ok (.iload_n 1, 1) := by decide +kernel
theorem dX1_waysFrom_39 : decode cX1_waysFrom 39 = .ok (.iconst 1, 1) := by decide +kernel
theorem dX1_waysFrom_40 : decode cX1_waysFrom 40 = .ok (.iadd, 1) := by decide +kernel
theorem dX1_waysFrom_41 : decode cX1_waysFrom 41 = .ok (.aaload, 1) := by decide +kernel
theorem dX1_waysFrom_42 : decode cX1_waysFrom 42 = .ok (.iload 4, 2) := by decide +kernel
theorem dX1_waysFrom_44 : decode cX1_waysFrom 44 = .ok (.laload, 1) := by decide +kernel
theorem dX1_waysFrom_45 : decode cX1_waysFrom 45 = .ok (.lreturn, 1) := by decide +kernel
set_option maxRecDepth 20000 in
theorem ggX1_readTold_X2_cells : GoodIn wsX1_readTold wsX2_cells := goodIn_r _ [10, 11, 12, 61, 62, 63, 64, 65] (by decide +kernel) (by decide +kernel)
set_option maxRecDepth 20000 in
theorem gX1_readTold_X2_cells : GoodIn wsX1_readTold (wsV RX1 87 RX2 yX2_cells wsX2_cells) := goodIn_app (goodIn_of _ (by decide +kernel)) ggX1_readTold_X2_cells
set_option maxRecDepth 20000 in
theorem ggX1_readTold_X2_x : GoodIn wsX1_readTold wsX2_x := goodIn_r _ [16, 17, 61, 62, 63, 64, 65] (by decide +kernel) (by decide +kernel)
set_option maxRecDepth 20000 in
theorem gX1_readTold_X2_x : GoodIn wsX1_readTold (wsV RX1 133 RX2 yX2_x wsX2_x) := goodIn_app (goodIn_of _ (by decide +kernel)) ggX1_readTold_X2_x
set_option maxRecDepth 20000 in
theorem ggX1_readTold_X5_line : GoodIn wsX1_readTold wsX5_line := goodIn_r _ [22, 23, 24, 25, 26, 27, 28, 29, 30, 66, 67, 68, 69, 70, 71, 72] (by decide +kernel) (by decide +kernel)
set_option maxRecDepth 20000 in
theorem gX1_readTold_X5_line : GoodIn wsX1_readTold (wsV RX1 136 RX5 yX5_line wsX5_line) := goodIn_app (goodIn_of _ (by decide +kernel)) ggX1_readTold_X5_line
set_option maxRecDepth 20000 in
theorem ggX1_readTold_X2_y : GoodIn wsX1_readTold wsX2_y := goodIn_r _ [34, 35, 61, 62, 63, 64, 65] (by decide +kernel) (by decide +kernel)
set_option maxRecDepth 20000 in
theorem gX1_readTold_X2_y : GoodIn wsX1_readTold (wsV RX1 140 RX2 yX2_y wsX2_y) := goodIn_app (goodIn_of _ (by decide +kernel)) ggX1_readTold_X2_y
set_option maxRecDepth 20000 in
theorem ggX1_readTold_X1_meeting : GoodIn wsX1_readTold wsX1_meeting := goodIn_r _ [39] (by decide +kernel) (by decide +kernel)
set_option maxRecDepth 20000 in
theorem gX1_readTold_X1_meeting : GoodIn wsX1_readTold (va_wsS RX1 143 yX1_meeting wsX1_meeting) := goodIn_app (goodIn_of _ (by decide +kernel)) ggX1_readTold_X1_meeting
set_option maxRecDepth 20000 in
theorem ggX1_readTold_X1_upTo : GoodIn wsX1_readTold wsX1_upTo := goodIn_r _ [42] (by decide +kernel) (by decide +kernel)
set_option maxRecDepth 20000 in
theorem gX1_readTold_X1_upTo : GoodIn wsX1_readTold (va_wsS RX1 146 yX1_upTo wsX1_upTo) := goodIn_app (goodIn_of _ (by decide +kernel)) ggX1_readTold_X1_upTo
set_option maxRecDepth 20000 in
theorem ggX1_readTold_X5_top : GoodIn wsX1_readTold wsX5_top := goodIn_r _ [46, 47, 66, 67, 68, 69, 70] (by decide +kernel) (by decide +kernel)
set_option maxRecDepth 20000 in
theorem gX1_readTold_X5_top : GoodIn wsX1_readTold (wsV RX1 149 RX5 yX5_top wsX5_top) := goodIn_app (goodIn_of _ (by decide +kernel)) ggX1_readTold_X5_top
set_option maxRecDepth 20000 in
theorem ggX1_readTold_X1_underTop : GoodIn wsX1_readTold wsX1_underTop := goodIn_r _ [50] (by decide +kernel) (by decide +kernel)
set_option maxRecDepth 20000 in
theorem gX1_readTold_X1_underTop : GoodIn wsX1_readTold (va_wsS RX1 152 yX1_underTop wsX1_underTop) := goodIn_app (goodIn_of _ (by decide +kernel)) ggX1_readTold_X1_underTop
theorem dX1_readTold_0 : decode cX1_readTold 0 = .ok (.iconst 0, 1) := by decide +kernel
theorem dX1_readTold_1 : decode cX1_readTold 1 = .ok (.istore_n 1, 1) := by decide +kernel
theorem dX1_readTold_2 : decode cX1_readTold 2 = .ok (.iload_n 1, 1) := by decide +kernel
theorem dX1_readTold_3 : decode cX1_readTold 3 = .ok (.aload_n 0, 1) := by decide +kernel
theorem dX1_readTold_4 : decode cX1_readTold 4 = .ok (.getfield 39, 3) := by decide +kernel
theorem dX1_readTold_7 : decode cX1_readTold 7 = .ok (.invokevirtual 87, 3) := by decide +kernel
theorem dX1_readTold_10 : decode cX1_readTold 10 = .ok (.if_icmp .ge 90, 3) := by decide +kernel
theorem dX1_readTold_13 : decode cX1_readTold 13 = .ok (.aload_n 0, 1) := by decide +kernel
theorem dX1_readTold_14 : decode cX1_readTold 14 = .ok (.getfield 43, 3) := by decide +kernel
theorem dX1_readTold_17 : decode cX1_readTold 17 = .ok (.iconst 1, 1) := by decide +kernel
theorem dX1_readTold_18 : decode cX1_readTold 18 = .ok (.aload_n 0, 1) := by decide +kernel
theorem dX1_readTold_19 : decode cX1_readTold 19 = .ok (.getfield 39, 3) := by decide +kernel
theorem dX1_readTold_22 : decode cX1_readTold 22 = .ok (.iload_n 1, 1) := by decide +kernel
theorem dX1_readTold_23 : decode cX1_readTold 23 = .ok (.invokevirtual 133, 3) := by decide +kernel
theorem dX1_readTold_26 : decode cX1_readTold 26 = .ok (.invokevirtual 136, 3) := by decide +kernel
theorem dX1_readTold_29 : decode cX1_readTold 29 = .ok (.istore_n 2, 1) := by decide +kernel
theorem dX1_readTold_30 : decode cX1_readTold 30 = .ok (.aload_n 0, 1) := by decide +kernel
theorem dX1_readTold_31 : decode cX1_readTold 31 = .ok (.getfield 43, 3) := by decide +kernel
theorem dX1_readTold_34 : decode cX1_readTold 34 = .ok (.iconst 0, 1) := by decide +kernel
theorem dX1_readTold_35 : decode cX1_readTold 35 = .ok (.aload_n 0, 1) := by decide +kernel
theorem dX1_readTold_36 : decode cX1_readTold 36 = .ok (.getfield 39, 3) := by decide +kernel
theorem dX1_readTold_39 : decode cX1_readTold 39 = .ok (.iload_n 1, 1) := by decide +kernel
theorem dX1_readTold_40 : decode cX1_readTold 40 = .ok (.invokevirtual 140, 3) := by decide +kernel
theorem dX1_readTold_43 : decode cX1_readTold 43 = .ok (.invokevirtual 136, 3) := by decide +kernel
theorem dX1_readTold_46 : decode cX1_readTold 46 = .ok (.istore_n 3, 1) := by decide +kernel
theorem dX1_readTold_47 : decode cX1_readTold 47 = .ok (.aload_n 0, 1) := by decide +kernel
theorem dX1_readTold_48 : decode cX1_readTold 48 = .ok (.getfield 15, 3) := by decide +kernel
theorem dX1_readTold_51 : decode cX1_readTold 51 = .ok (.iload_n 1, 1) := by decide +kernel
theorem dX1_readTold_52 : decode cX1_readTold 52 = .ok (.iload_n 2, 1) := by decide +kernel
theorem dX1_readTold_53 : decode cX1_readTold 53 = .ok (.invokestatic 143, 3) := by decide +kernel
theorem dX1_readTold_56 : decode cX1_readTold 56 = .ok (.iastore, 1) := by decide +kernel
theorem dX1_readTold_57 : decode cX1_readTold 57 = .ok (.aload_n 0, 1) := by decide +kernel
theorem dX1_readTold_58 : decode cX1_readTold 58 = .ok (.getfield 18, 3) := by decide +kernel
theorem dX1_readTold_61 : decode cX1_readTold 61 = .ok (.iload_n 1, 1) := by decide +kernel
theorem dX1_readTold_62 : decode cX1_readTold 62 = .ok (.iload_n 3, 1) := by decide +kernel
theorem dX1_readTold_63 : decode cX1_readTold 63 = .ok (.invokestatic 143, 3) := by decide +kernel
theorem dX1_readTold_66 : decode cX1_readTold 66 = .ok (.iastore, 1) := by decide +kernel
theorem dX1_readTold_67 : decode cX1_readTold 67 = .ok (.aload_n 0, 1) := by decide +kernel
theorem dX1_readTold_68 : decode cX1_readTold 68 = .ok (.getfield 9, 3) := by decide +kernel
theorem dX1_readTold_71 : decode cX1_readTold 71 = .ok (.iload_n 1, 1) := by decide +kernel
theorem dX1_readTold_72 : decode cX1_readTold 72 = .ok (.iload_n 2, 1) := by decide +kernel
theorem dX1_readTold_73 : decode cX1_readTold 73 = .ok (.invokestatic 146, 3) := by decide +kernel
theorem dX1_readTold_76 : decode cX1_readTold 76 = .ok (.iload_n 3, 1) := by decide +kernel
theorem dX1_readTold_77 : decode cX1_readTold 77 = .ok (.invokestatic 146, 3) := by decide +kernel
theorem dX1_readTold_80 : decode cX1_readTold 80 = .ok (.iand, 1) := by decide +kernel
theorem dX1_readTold_81 : decode cX1_readTold 81 = .ok (.aload_n 0, 1) := by decide +kernel
theorem dX1_readTold_82 : decode cX1_readTold 82 = .ok (.getfield 43, 3) := by decide +kernel
theorem dX1_readTold_85 : decode cX1_readTold 85 = .ok (.iload_n 1, 1) := by decide +kernel
theorem dX1_readTold_86 : decode cX1_readTold 86 = .ok (.invokevirtual 149, 3) := by decide +kernel
theorem dX1_readTold_89 : decode cX1_readTold 89 = .ok (.invokestatic 152, 3) := by decide +kernel
theorem dX1_readTold_92 : decode cX1_readTold 92 = .ok (.iand, 1) := by decide +kernel
theorem dX1_readTold_93 : decode cX1_readTold 93 = .ok (.iastore, 1) := by decide +kernel
