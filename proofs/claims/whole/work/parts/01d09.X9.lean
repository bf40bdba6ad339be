theorem dX9_layWater_54 : decode cX9_layWater 54 = .ok (.iadd, 1) := by decide +kernel
theorem dX9_layWater_55 : decode cX9_layWater 55 = .ok (.iaload, 1) := by decide +kernel
theorem dX9_layWater_56 : decode cX9_layWater 56 = .ok (.istore 4, 2) := by decide +kernel
theorem dX9_layWater_58 : decode cX9_layWater 58 = .ok (.aload_n 0, 1) := by decide +kernel
theorem dX9_layWater_59 : decode cX9_layWater 59 = .ok (.iload_n 3, 1) := by decide +kernel
theorem dX9_layWater_60 : decode cX9_layWater 60 = .ok (.iconst 4, 1) := by decide +kernel
theorem dX9_layWater_61 : decode cX9_layWater 61 = .ok (.idiv, 1) := by decide +kernel
theorem dX9_layWater_62 : decode cX9_layWater 62 = .ok (.iload_n 3, 1) := by decide +kernel
theorem dX9_layWater_63 : decode cX9_layWater 63 = .ok (.iconst 4, 1) := by decide +kernel
theorem dX9_layWater_64 : decode cX9_layWater 64 = .ok (.irem, 1) := by decide +kernel
theorem dX9_layWater_65 : decode cX9_layWater 65 = .ok (.invokevirtual 135, 3) := by decide +kernel
theorem dX9_layWater_68 : decode cX9_layWater 68 = .ok (.istore 5, 2) := by decide +kernel
theorem dX9_layWater_70 : decode cX9_layWater 70 = .ok (.iload 5, 2) := by decide +kernel
theorem dX9_layWater_72 : decode cX9_layWater 72 = .ok (.bipush (-9), 2) := by decide +kernel
theorem dX9_layWater_74 : decode cX9_layWater 74 = .ok (.if_icmp .ne 7, 3) := by decide +kernel
theorem dX9_layWater_77 : decode cX9_layWater 77 = .ok (.iconst 0, 1) := by decide +kernel
theorem dX9_layWater_78 : decode cX9_layWater 78 = .ok (.goto 10, 3) := by decide +kernel
theorem dX9_layWater_81 : decode cX9_layWater 81 = .ok (.aload_n 0, 1) := by decide +kernel
theorem dX9_layWater_82 : decode cX9_layWater 82 = .ok (.getfield 28, 3) := by decide +kernel
theorem dX9_layWater_85 : decode cX9_layWater 85 = .ok (.iload 5, 2) := by decide +kernel
theorem dX9_layWater_87 : decode cX9_layWater 87 = .ok (.iaload, 1) := by decide +kernel
theorem dX9_layWater_88 : decode cX9_layWater 88 = .ok (.istore 6, 2) := by decide +kernel
theorem dX9_layWater_90 : decode cX9_layWater 90 = .ok (.iload 6, 2) := by decide +kernel
theorem dX9_layWater_92 : decode cX9_layWater 92 = .ok (.iload 4, 2) := by decide +kernel
theorem dX9_layWater_94 : decode cX9_layWater 94 = .ok (.if_icmp .le 8, 3) := by decide +kernel
theorem dX9_layWater_97 : decode cX9_layWater 97 = .ok (.iload 6, 2) := by decide +kernel
theorem dX9_layWater_99 : decode cX9_layWater 99 = .ok (.goto 5, 3) := by decide +kernel
theorem dX9_layWater_102 : decode cX9_layWater 102 = .ok (.iload 4, 2) := by decide +kernel
theorem dX9_layWater_104 : decode cX9_layWater 104 = .ok (.istore 6, 2) := by decide +kernel
theorem dX9_layWater_106 : decode cX9_layWater 106 = .ok (.iload 6, 2) := by decide +kernel
theorem dX9_layWater_108 : decode cX9_layWater 108 = .ok (.aload_n 0, 1) := by decide +kernel
theorem dX9_layWater_109 : decode cX9_layWater 109 = .ok (.getfield 28, 3) := by decide +kernel
theorem dX9_layWater_112 : decode cX9_layWater 112 = .ok (.iload_n 3, 1) := by decide +kernel
theorem dX9_layWater_113 : decode cX9_layWater 113 = .ok (.iconst 4, 1) := by decide +kernel
theorem dX9_layWater_114 : decode cX9_layWater 114 = .ok (.idiv, 1) := by decide +kernel
theorem dX9_layWater_115 : decode cX9_layWater 115 = .ok (.iaload, 1) := by decide +kernel
theorem dX9_layWater_116 : decode cX9_layWater 116 = .ok (.if_icmp .ge 15, 3) := by decide +kernel
theorem dX9_layWater_119 : decode cX9_layWater 119 = .ok (.aload_n 0, 1) := by decide +kernel
theorem dX9_layWater_120 : decode cX9_layWater 120 = .ok (.getfield 28, 3) := by decide +kernel
theorem dX9_layWater_123 : decode cX9_layWater 123 = .ok (.iload_n 3, 1) := by decide +kernel
theorem dX9_layWater_124 : decode cX9_layWater 124 = .ok (.iconst 4, 1) := by decide +kernel
theorem dX9_layWater_125 : decode cX9_layWater 125 = .ok (.idiv, 1) := by decide +kernel
theorem dX9_layWater_126 : decode cX9_layWater 126 = .ok (.iload 6, 2) := by decide +kernel
theorem dX9_layWater_128 : decode cX9_layWater 128 = .ok (.iastore, 1) := by decide +kernel
theorem dX9_layWater_129 : decode cX9_layWater 129 = .ok (.iconst 1, 1) := by decide +kernel
theorem dX9_layWater_130 : decode cX9_layWater 130 = .ok (.istore_n 2, 1) := by decide +kernel
theorem dX9_layWater_131 : decode cX9_layWater 131 = .ok (.iinc 3 1, 3) := by decide +kernel
theorem dX9_layWater_134 : decode cX9_layWater 134 = .ok (.goto (-101), 3) := by decide +kernel
theorem dX9_layWater_137 : decode cX9_layWater 137 = .ok (.goto (-112), 3) := by decide +kernel
theorem dX9_layWater_140 : decode cX9_layWater 140 = .ok (.return_, 1) := by decide +kernel
set_option maxRecDepth 20000 in
theorem ggX9_water_X9_isSlot : GoodIn wsX9_water wsX9_isSlot := goodIn_r _ [6, 7, 8, 9, 5, 10] (by decide +kernel) (by decide +kernel)
set_option maxRecDepth 20000 in
theorem gX9_water_X9_isSlot : GoodIn wsX9_water (va_wsS RX9 103 yX9_isSlot wsX9_isSlot) := goodIn_app (goodIn_of _ (by decide +kernel)) ggX9_water_X9_isSlot
set_option maxRecDepth 20000 in
theorem ggX9_water_X9_layWater : GoodIn wsX9_water wsX9_layWater := goodIn_r _ [14, 1, 2, 15, 16, 17, 5, 18, 19, 20, 21, 22, 23, 24, 8, 9, 10, 25, 26, 27, 28, 29, 30, 31, 32, 33, 34, 35, 36, 37, 38, 39, 40, 41, 42, 43, 44, 45, 46, 47, 48, 49, 50] (by decide +kernel) (by decide +kernel)
set_option maxRecDepth 20000 in
theorem gX9_water_X9_layWater : GoodIn wsX9_water (wsV RX9 142 RX9 yX9_layWater wsX9_layWater) := goodIn_app (goodIn_of _ (by decide +kernel)) ggX9_water_X9_layWater
set_option maxRecDepth 20000 in
theorem ggX9_water_X9_cells : GoodIn wsX9_water wsX9_cells := goodIn_r _ [18, 19, 20, 25, 26, 27, 28, 29, 30, 31, 32, 33, 34, 35, 36, 37, 38, 39, 40, 41, 42, 43, 44, 45, 46, 47, 48, 49, 50] (by decide +kernel) (by decide +kernel)
set_option maxRecDepth 20000 in
theorem gX9_water_X9_cells : GoodIn wsX9_water (wsV RX9 97 RX9 yX9_cells wsX9_cells) := goodIn_app (goodIn_of _ (by decide +kernel)) ggX9_water_X9_cells
theorem dX9_water_0 : decode cX9_water 0 = .ok (.iload_n 1, 1) := by decide +kernel
theorem dX9_water_1 : decode cX9_water 1 = .ok (.invokestatic 103, 3) := by decide +kernel
theorem dX9_water_4 : decode cX9_water 4 = .ok (.ifCond .ne 5, 3) := by decide +kernel
theorem dX9_water_7 : decode cX9_water 7 = .ok (.iconst (-1), 1) := by decide +kernel
theorem dX9_water_8 : decode cX9_water 8 = .ok (.ireturn, 1) := by decide +kernel
theorem dX9_water_9 : decode cX9_water 9 = .ok (.aload_n 0, 1) := by decide +kernel
theorem dX9_water_10 : decode cX9_water 10 = .ok (.iload_n 1, 1) := by decide +kernel
theorem dX9_water_11 : decode cX9_water 11 = .ok (.invokevirtual 142, 3) := by decide +kernel
theorem dX9_water_14 : decode cX9_water 14 = .ok (.iconst 0, 1) := by decide +kernel
theorem dX9_water_15 : decode cX9_water 15 = .ok (.istore_n 2, 1) := by decide +kernel
theorem dX9_water_16 : decode cX9_water 16 = .ok (.iconst 0, 1) := by decide +kernel
theorem dX9_water_17 : decode cX9_water 17 = .ok (.istore_n 3, 1) := by decide +kernel
theorem dX9_water_18 : decode cX9_water 18 = .ok (.iload_n 3, 1) := by decide +kernel
theorem dX9_water_19 : decode cX9_water 19 = .ok (.aload_n 0, 1) := by decide +kernel
theorem dX9_water_20 : decode cX9_water 20 = .ok (.invokevirtual 97, 3) := by decide +kernel
theorem dX9_water_23 : decode cX9_water 23 = .ok (.if_icmp .ge 30, 3) := by decide +kernel
theorem dX9_water_26 : decode cX9_water 26 = .ok (.iload_n 2, 1) := by decide +kernel
theorem dX9_water_27 : decode cX9_water 27 = .ok (.aload_n 0, 1) := by decide +kernel
theorem dX9_water_28 : decode cX9_water 28 = .ok (.getfield 28, 3) := by decide +kernel
theorem dX9_water_31 : decode cX9_water 31 = .ok (.iload_n 3, 1) := by decide +kernel
theorem dX9_water_32 : decode cX9_water 32 = .ok (.iaload, 1) := by decide +kernel
theorem dX9_water_33 : decode cX9_water 33 = .ok (.aload_n 0, 1) := by decide +kernel
theorem dX9_water_34 : decode cX9_water 34 = .ok (.getfield 7, 3) := by decide +kernel
theorem dX9_water_37 : decode cX9_water 37 = .ok (.bipush 25, 2) := by decide +kernel
theorem dX9_water_39 : decode cX9_water 39 = .ok (.iload_n 1, 1) := by decide +kernel
theorem dX9_water_40 : decode cX9_water 40 = .ok (.imul, 1) := by decide +kernel
theorem dX9_water_41 : decode cX9_water 41 = .ok (.iload_n 3, 1) := by decide +kernel
theorem dX9_water_42 : decode cX9_water 42 = .ok (.iadd, 1) := by decide +kernel
theorem dX9_water_43 : decode cX9_water 43 = .ok (.iaload, 1) := by decide +kernel
theorem dX9_water_44 : decode cX9_water 44 = .ok (.isub, 1) := by decide +kernel
theorem dX9_water_45 : decode cX9_water 45 = .ok (.iadd, 1) := by decide +kernel
theorem dX9_water_46 : decode cX9_water 46 = .ok (.istore_n 2, 1) := by decide +kernel
theorem dX9_water_47 : decode cX9_water 47 = .ok (.iinc 3 1, 3) := by decide +kernel
theorem dX9_water_50 : decode cX9_water 50 = .ok (.goto (-32), 3) := by decide +kernel
theorem dX9_water_53 : decode cX9_water 53 = .ok (.iload_n 2, 1) := by decide +kernel
theorem dX9_water_54 : decode cX9_water 54 = .ok (.ireturn, 1) := by decide +kernel
set_option maxRecDepth 20000 in
theorem ggX9_level_X9_isSlot : GoodIn wsX9_level wsX9_isSlot := goodIn_r _ [5, 6, 7, 8, 4, 9] (by decide +kernel) (by decide +kernel)
set_option maxRecDepth 20000 in
theorem gX9_level_X9_isSlot : GoodIn wsX9_level (va_wsS RX9 103 yX9_isSlot wsX9_isSlot) := goodIn_app (goodIn_of _ (by decide +kernel)) ggX9_level_X9_isSlot
set_option maxRecDepth 20000 in
theorem ggX9_level_X9_isCell : GoodIn wsX9_level wsX9_isCell := goodIn_r _ [13, 14, 15, 16, 4, 17, 18, 19, 7, 8, 9, 29, 30, 31, 32, 33, 34, 35, 36, 37, 38, 39, 40, 41, 42, 43, 44, 45, 46, 47, 48, 49, 50, 51, 52, 53, 54] (by decide +kernel) (by decide +kernel)
set_option maxRecDepth 20000 in
theorem gX9_level_X9_isCell : GoodIn wsX9_level (wsV RX9 107 RX9 yX9_isCell wsX9_isCell) := goodIn_app (goodIn_of _ (by decide +kernel)) ggX9_level_X9_isCell
set_option maxRecDepth 20000 in
theorem ggX9_level_X9_layWater : GoodIn wsX9_level wsX9_layWater := goodIn_r _ [23, 1, 24, 14, 15, 16, 4, 17, 18, 19, 25, 26, 27, 28, 7, 8, 9, 29, 30, 31, 32, 33, 34, 35, 36, 37, 38, 39, 40, 41, 42, 43, 44, 45, 46, 47, 48, 49, 50, 51, 52, 53, 54] (by decide +kernel) (by decide +kernel)
set_option maxRecDepth 20000 in
theorem gX9_level_X9_layWater : GoodIn wsX9_level (wsV RX9 142 RX9 yX9_layWater wsX9_layWater) := goodIn_app (goodIn_of _ (by decide +kernel)) ggX9_level_X9_layWater
theorem dX9_level_0 : decode cX9_level 0 = .ok (.iload_n 1, 1) := by decide +kernel
theorem dX9_level_1 : decode cX9_level 1 = .ok (.invokestatic 103, 3) := by decide +kernel
theorem dX9_level_4 : decode cX9_level 4 = .ok (.ifCond .eq 11, 3) := by decide +kernel
theorem dX9_level_7 : decode cX9_level 7 = .ok (.aload_n 0, 1) := by decide +kernel
theorem dX9_level_8 : decode cX9_level 8 = .ok (.iload_n 2, 1) := by decide +kernel
theorem dX9_level_9 : decode cX9_level 9 = .ok (.invokevirtual 107, 3) := by decide +kernel
theorem dX9_level_12 : decode cX9_level 12 = .ok (.ifCond .ne 5, 3) := by decide +kernel
theorem dX9_level_15 : decode cX9_level 15 = .ok (.iconst (-1), 1) := by decide +kernel
theorem dX9_level_16 : decode cX9_level 16 = .ok (.ireturn, 1) := by decide +kernel
theorem dX9_level_17 : decode cX9_level 17 = .ok (.aload_n 0, 1) := by decide +kernel
theorem dX9_level_18 : decode cX9_level 18 = .ok (.iload_n 1, 1) := by decide +kernel
theorem dX9_level_19 : decode cX9_level 19 = .ok (.invokevirtual 142, 3) := by decide +kernel
theorem dX9_level_22 : decode cX9_level 22 = .ok (.aload_n 0, 1) := by decide +kernel
theorem dX9_level_23 : decode cX9_level 23 = .ok (.getfield 28, 3) := by decide +kernel
theorem dX9_level_26 : decode cX9_level 26 = .ok (.iload_n 2, 1) := by decide +kernel
theorem dX9_level_27 : decode cX9_level 27 = .ok (.iaload, 1) := by decide +kernel
theorem dX9_level_28 : decode cX9_level 28 = .ok (.ireturn, 1) := by decide +kernel
set_option maxRecDepth 20000 in
theorem ggX9_tell_X9_isLine : GoodIn wsX9_tell wsX9_isLine := goodIn_r _ [8, 9, 10, 11, 12, 7, 13, 14, 15, 16, 17, 18, 19, 20, 21, 22, 23, 24, 25, 26, 27, 28, 29, 30, 31, 32, 33, 34, 35, 36, 37, 38, 39] (by decide +kernel) (by decide +kernel)
set_option maxRecDepth 20000 in
theorem gX9_tell_X9_isLine : GoodIn wsX9_tell (wsV RX9 124 RX9 yX9_isLine wsX9_isLine) := goodIn_app (goodIn_of _ (by decide +kernel)) ggX9_tell_X9_isLine
set_option maxRecDepth 20000 in
theorem ggX9_tell_X9_in : GoodIn wsX9_tell wsX9_in := goodIn_r _ [13] (by decide +kernel) (by decide +kernel)
set_option maxRecDepth 20000 in
theorem gX9_tell_X9_in : GoodIn wsX9_tell (va_wsS RX9 93 yX9_in wsX9_in) := goodIn_app (goodIn_of _ (by decide +kernel)) ggX9_tell_X9_in
theorem dX9_tell_0 : decode cX9_tell 0 = .ok (.aload_n 0, 1) := by decide +kernel
theorem dX9_tell_1 : decode cX9_tell 1 = .ok (.iload_n 1, 1) := by decide +kernel
theorem dX9_tell_2 : decode cX9_tell 2 = .ok (.iload_n 2, 1) := by decide +kernel
theorem dX9_tell_3 : decode cX9_tell 3 = .ok (.invokevirtual 124, 3) := by decide +kernel
theorem dX9_tell_6 : decode cX9_tell 6 = .ok (.ifCond .ne 5, 3) := by decide +kernel
theorem dX9_tell_9 : decode cX9_tell 9 = .ok (.iconst (-1), 1) := by decide +kernel
theorem dX9_tell_10 : decode cX9_tell 10 = .ok (.ireturn, 1) := by decide +kernel
theorem dX9_tell_11 : decode cX9_tell 11 = .ok (.iload_n 3, 1) := by decide +kernel
theorem dX9_tell_12 : decode cX9_tell 12 = .ok (.bipush (-9), 2) := by decide +kernel
theorem dX9_tell_14 : decode cX9_tell 14 = .ok (.if_icmp .eq 18, 3) := by decide +kernel
theorem dX9_tell_17 : decode cX9_tell 17 = .ok (.iload_n 3, 1) := by decide +kernel
theorem dX9_tell_18 : decode cX9_tell 18 = .ok (.i2l, 1) := by decide +kernel
theorem dX9_tell_19 : decode cX9_tell 19 = .ok (.lconst 0, 1) := by decide +kernel
theorem dX9_tell_20 : decode cX9_tell 20 = .ok (.ldc2_w 110, 3) := by decide +kernel
theorem dX9_tell_23 : decode cX9_tell 23 = .ok (.invokestatic 93, 3) := by decide +kernel
theorem dX9_tell_26 : decode cX9_tell 26 = .ok (.ifCond .ne 6, 3) := by decide +kernel
theorem dX9_tell_29 : decode cX9_tell 29 = .ok (.bipush (-2), 2) := by decide +kernel
theorem dX9_tell_31 : decode cX9_tell 31 = .ok (.ireturn, 1) := by decide +kernel
theorem dX9_tell_32 : decode cX9_tell 32 = .ok (.iload_n 1, 1) := by decide +kernel
theorem dX9_tell_33 : decode cX9_tell 33 = .ok (.ifCond .eq 12, 3) := by decide +kernel
theorem dX9_tell_36 : decode cX9_tell 36 = .ok (.aload_n 0, 1) := by decide +kernel
theorem dX9_tell_37 : decode cX9_tell 37 = .ok (.getfield 13, 3) := by decide +kernel
theorem dX9_tell_40 : decode cX9_tell 40 = .ok (.iload_n 2, 1) := by decide +kernel
theorem dX9_tell_41 : decode cX9_tell 41 = .ok (.iaload, 1) := by decide +kernel
theorem dX9_tell_42 : decode cX9_tell 42 = .ok (.goto 9, 3) := by decide +kernel
theorem dX9_tell_45 : decode cX9_tell 45 = .ok (.aload_n 0, 1) := by decide +kernel
theorem dX9_tell_46 : decode cX9_tell 46 = .ok (.getfield 16, 3) := by decide +kernel
theorem dX9_tell_49 : decode cX9_tell 49 = .ok (.iload_n 2, 1) := by decide +kernel
theorem dX9_tell_50 : decode cX9_tell 50 = .ok (.iaload, 1) := by decide +kernel
theorem dX9_tell_51 : decode cX9_tell 51 = .ok (.istore 4, 2) := by decide +kernel
theorem dX9_tell_53 : decode cX9_tell 53 = .ok (.iload_n 1, 1) := by decide +kernel
theorem dX9_tell_54 : decode cX9_tell 54 = .ok (.ifCond .eq 13, 3) := by decide +kernel
theorem dX9_tell_57 : decode cX9_tell 57 = .ok (.aload_n 0, 1) := by decide +kernel
theorem dX9_tell_58 : decode cX9_tell 58 = .ok (.getfield 13, 3) := by decide +kernel
theorem dX9_tell_61 : decode cX9_tell 61 = .ok (.iload_n 2, 1) := by decide +kernel
theorem dX9_tell_62 : decode cX9_tell 62 = .ok (.iload_n 3, 1) := by decide +kernel
theorem dX9_tell_63 : decode cX9_tell 63 = .ok (.iastore, 1) := by decide +kernel
theorem dX9_tell_64 : decode cX9_tell 64 = .ok (.goto 10, 3) := by decide +kernel
theorem dX9_tell_67 : decode cX9_tell 67 = .ok (.aload_n 0, 1) := by decide +kernel
theorem dX9_tell_68 : decode cX9_tell 68 = .ok (.getfield 16, 3) := by decide +kernel
theorem dX9_tell_71 : decode cX9_tell 71 = .ok (.iload_n 2, 1) := by decide +kernel
theorem dX9_tell_72 : decode cX9_tell 72 = .ok (.iload_n 3, 1) := by decide +kernel
theorem dX9_tell_73 : decode cX9_tell 73 = .ok (.iastore, 1) := by decide +kernel
theorem dX9_tell_74 : decode cX9_tell 74 = .ok (.iload 4, 2) := by decide +kernel
theorem dX9_tell_76 : decode cX9_tell 76 = .ok (.ireturn, 1) := by decide +kernel
set_option maxRecDepth 20000 in
theorem ggX9_tellTop_X9_isCell : GoodIn wsX9_tellTop wsX9_isCell := goodIn_r _ [6, 7, 8, 9, 5, 10, 11, 12, 13, 14, 15, 16, 17, 18, 19, 20, 21, 22, 23, 24, 25, 26, 27, 28, 29, 30, 31, 32, 33, 34, 35, 36, 37, 38, 39, 40, 41] (by decide +kernel) (by decide +kernel)
set_option maxRecDepth 20000 in
theorem gX9_tellTop_X9_isCell : GoodIn wsX9_tellTop (wsV RX9 107 RX9 yX9_isCell wsX9_isCell) := goodIn_app (goodIn_of _ (by decide +kernel)) ggX9_tellTop_X9_isCell
set_option maxRecDepth 20000 in
theorem ggX9_tellTop_X9_in : GoodIn wsX9_tellTop wsX9_in := goodIn_r _ [15] (by decide +kernel) (by decide +kernel)
set_option maxRecDepth 20000 in
theorem gX9_tellTop_X9_in : GoodIn wsX9_tellTop (va_wsS RX9 93 yX9_in wsX9_in) := goodIn_app (goodIn_of _ (by decide +kernel)) ggX9_tellTop_X9_in
theorem dX9_tellTop_0 : decode cX9_tellTop 0 = .ok (.aload_n 0, 1) := by decide +kernel
theorem dX9_tellTop_1 : decode cX9_tellTop 1 = .ok (.iload_n 1, 1) := by decide +kernel
theorem dX9_tellTop_2 : decode cX9_tellTop 2 = .ok (.invokevirtual 107, 3) := by decide +kernel
theorem dX9_tellTop_5 : decode cX9_tellTop 5 = .ok (.ifCond .ne 5, 3) := by decide +kernel
theorem dX9_tellTop_8 : decode cX9_tellTop 8 = .ok (.iconst (-1), 1) := by decide +kernel
theorem dX9_tellTop_9 : decode cX9_tellTop 9 = .ok (.ireturn, 1) := by decide +kernel
theorem dX9_tellTop_10 : decode cX9_tellTop 10 = .ok (.iload_n 2, 1) := by decide +kernel
theorem dX9_tellTop_11 : decode cX9_tellTop 11 = .ok (.bipush (-9), 2) := by decide +kernel
theorem dX9_tellTop_13 : decode cX9_tellTop 13 = .ok (.if_icmp .eq 16, 3) := by decide +kernel
theorem dX9_tellTop_16 : decode cX9_tellTop 16 = .ok (.iload_n 2, 1) := by decide +kernel
theorem dX9_tellTop_17 : decode cX9_tellTop 17 = .ok (.i2l, 1) := by decide +kernel
theorem dX9_tellTop_18 : decode cX9_tellTop 18 = .ok (.lconst 0, 1) := by decide +kernel
theorem dX9_tellTop_19 : decode cX9_tellTop 19 = .ok (.lconst 1, 1) := by decide +kernel
theorem dX9_tellTop_20 : decode cX9_tellTop 20 = .ok (.invokestatic 93, 3) := by decide +kernel
theorem dX9_tellTop_23 : decode cX9_tellTop 23 = .ok (.ifCond .ne 6, 3) := by decide +kernel
theorem dX9_tellTop_26 : decode cX9_tellTop 26 = .ok (.bipush (-2), 2) := by decide +kernel
theorem dX9_tellTop_28 : decode cX9_tellTop 28 = .ok (.ireturn, 1) := by decide +kernel
theorem dX9_tellTop_29 : decode cX9_tellTop 29 = .ok (.aload_n 0, 1) := by decide +kernel
theorem dX9_tellTop_30 : decode cX9_tellTop 30 = .ok (.getfield 19, 3) := by decide +kernel
theorem dX9_tellTop_33 : decode cX9_tellTop 33 = .ok (.iload_n 1, 1) := by decide +kernel
theorem dX9_tellTop_34 : decode cX9_tellTop 34 = .ok (.iaload, 1) := by decide +kernel
theorem dX9_tellTop_35 : decode cX9_tellTop 35 = .ok (.istore_n 3, 1) := by decide +kernel
theorem dX9_tellTop_36 : decode cX9_tellTop 36 = .ok (.aload_n 0, 1) := by decide +kernel
theorem dX9_tellTop_37 : decode cX9_tellTop 37 = .ok (.getfield 19, 3) := by decide +kernel
theorem dX9_tellTop_40 : decode cX9_tellTop 40 = .ok (.iload_n 1, 1) := by decide +kernel
theorem dX9_tellTop_41 : decode cX9_tellTop 41 = .ok (.iload_n 2, 1) := by decide +kernel
theorem dX9_tellTop_42 : decode cX9_tellTop 42 = .ok (.iastore, 1) := by decide +kernel
theorem dX9_tellTop_43 : decode cX9_tellTop 43 = .ok (.iload_n 3, 1) := by decide +kernel
theorem dX9_tellTop_44 : decode cX9_tellTop 44 = .ok (.ireturn, 1) := by decide +kernel
set_option maxRecDepth 20000 in
theorem ggX9_tellAs_X9_isSlot : GoodIn wsX9_tellAs wsX9_isSlot := goodIn_r _ [10, 11, 12, 13, 9, 14] (by decide +kernel) (by decide +kernel)
set_option maxRecDepth 20000 in
theorem gX9_tellAs_X9_isSlot : GoodIn wsX9_tellAs (va_wsS RX9 103 yX9_isSlot wsX9_isSlot) := goodIn_app (goodIn_of _ (by decide +kernel)) ggX9_tellAs_X9_isSlot
set_option maxRecDepth 20000 in
theorem ggX9_tellAs_X9_greatestOf : GoodIn wsX9_tellAs wsX9_greatestOf := goodIn_r _ [18, 5, 19, 20, 21, 9, 22, 3, 1, 23, 24, 25, 26, 31, 32, 33, 34, 35, 36, 37, 38, 39, 40, 41, 42, 43, 44, 45, 46, 47, 48, 49, 50, 51, 52, 53, 54, 55, 56] (by decide +kernel) (by decide +kernel)
set_option maxRecDepth 20000 in
theorem gX9_tellAs_X9_greatestOf : GoodIn wsX9_tellAs (wsV RX9 128 RX9 yX9_greatestOf wsX9_greatestOf) := goodIn_app (goodIn_of _ (by decide +kernel)) ggX9_tellAs_X9_greatestOf
set_option maxRecDepth 20000 in
theorem ggX9_tellAs_X9_cells : GoodIn wsX9_tellAs wsX9_cells := goodIn_r _ [30, 1, 3, 31, 32, 33, 34, 35, 36, 37, 38, 39, 40, 41, 42, 43, 44, 45, 46, 47, 48, 49, 50, 51, 52, 53, 54, 55, 56] (by decide +kernel) (by decide +kernel)
set_option maxRecDepth 20000 in
theorem gX9_tellAs_X9_cells : GoodIn wsX9_tellAs (wsV RX9 97 RX9 yX9_cells wsX9_cells) := goodIn_app (goodIn_of _ (by decide +kernel)) ggX9_tellAs_X9_cells
theorem dX9_tellAs_0 : decode cX9_tellAs 0 = .ok (.iload_n 1, 1) := by decide +kernel
theorem dX9_tellAs_1 : decode cX9_tellAs 1 = .ok (.invokestatic 103, 3) := by decide +kernel
theorem dX9_tellAs_4 : decode cX9_tellAs 4 = .ok (.ifCond .ne 5, 3) := by decide +kernel
theorem dX9_tellAs_7 : decode cX9_tellAs 7 = .ok (.iconst (-1), 1) := by decide +kernel
theorem dX9_tellAs_8 : decode cX9_tellAs 8 = .ok (.ireturn, 1) := by decide +kernel
theorem dX9_tellAs_9 : decode cX9_tellAs 9 = .ok (.iconst 0, 1) := by decide +kernel
theorem dX9_tellAs_10 : decode cX9_tellAs 10 = .ok (.istore_n 3, 1) := by decide +kernel
theorem dX9_tellAs_11 : decode cX9_tellAs 11 = .ok (.iconst 0, 1) := by decide +kernel
theorem dX9_tellAs_12 : decode cX9_tellAs 12 = .ok (.istore 4, 2) := by decide +kernel
theorem dX9_tellAs_14 : decode cX9_tellAs 14 = .ok (.iload 4, 2) := by decide +kernel
theorem dX9_tellAs_16 : decode cX9_tellAs 16 = .ok (.aload_n 0, 1) := by decide +kernel
theorem dX9_tellAs_17 : decode cX9_tellAs 17 = .ok (.getfield 85, 3) := by decide +kernel
theorem dX9_tellAs_20 : decode cX9_tellAs 20 = .ok (.if_icmp .ge 50, 3) := by decide +kernel
theorem dX9_tellAs_23 : decode cX9_tellAs 23 = .ok (.iload_n 3, 1) := by decide +kernel
theorem dX9_tellAs_24 : decode cX9_tellAs 24 = .ok (.aload_n 0, 1) := by decide +kernel
theorem dX9_tellAs_25 : decode cX9_tellAs 25 = .ok (.getfield 13, 3) := by decide +kernel
theorem dX9_tellAs_28 : decode cX9_tellAs 28 = .ok (.iload 4, 2) := by decide +kernel
theorem dX9_tellAs_30 : decode cX9_tellAs 30 = .ok (.iaload, 1) := by decide +kernel
theorem dX9_tellAs_31 : decode cX9_tellAs 31 = .ok (.aload_n 0, 1) := by decide +kernel
theorem dX9_tellAs_32 : decode cX9_tellAs 32 = .ok (.iload_n 1, 1) := by decide +kernel
theorem dX9_tellAs_33 : decode cX9_tellAs 33 = .ok (.iconst 1, 1) := by decide +kernel
theorem dX9_tellAs_34 : decode cX9_tellAs 34 = .ok (.iload 4, 2) := by decide +kernel
theorem dX9_tellAs_36 : decode cX9_tellAs 36 = .ok (.invokevirtual 128, 3) := by decide +kernel
theorem dX9_tellAs_39 : decode cX9_tellAs 39 = .ok (.if_icmp .eq 7, 3) := by decide +kernel
theorem dX9_tellAs_42 : decode cX9_tellAs 42 = .ok (.iconst 1, 1) := by decide +kernel
theorem dX9_tellAs_43 : decode cX9_tellAs 43 = .ok (.goto 4, 3) := by decide +kernel
theorem dX9_tellAs_46 : decode cX9_tellAs 46 = .ok (.iconst 0, 1) := by decide +kernel
theorem dX9_tellAs_47 : decode cX9_tellAs 47 = .ok (.iadd, 1) := by decide +kernel
theorem dX9_tellAs_48 : decode cX9_tellAs 48 = .ok (.istore_n 3, 1) := by decide +kernel
theorem dX9_tellAs_49 : decode cX9_tellAs 49 = .ok (.aload_n 0, 1) := by decide +kernel
theorem dX9_tellAs_50 : decode cX9_tellAs 50 = .ok (.getfield 13, 3) := by decide +kernel
theorem dX9_tellAs_53 : decode cX9_tellAs 53 = .ok (.iload 4, 2) := by decide +kernel
theorem dX9_tellAs_55 : decode cX9_tellAs 55 = .ok (.aload_n 0, 1) := by decide +kernel
theorem dX9_tellAs_56 : decode cX9_tellAs 56 = .ok (.iload_n 1, 1) := by decide +kernel
theorem dX9_tellAs_57 : decode cX9_tellAs 57 = .ok (.iconst 1, 1) := by decide +kernel
theorem dX9_tellAs_58 : decode cX9_tellAs 58 = .ok (.iload 4, 2) := by decide +kernel
theorem dX9_tellAs_60 : decode cX9_tellAs 60 = .ok (.invokevirtual 128, 3) := by decide +kernel
theorem dX9_tellAs_63 : decode cX9_tellAs 63 = .ok (.iastore, 1) := by decide +kernel
theorem dX9_tellAs_64 : decode cX9_tellAs 64 = .ok (.iinc 4 1, 3) := by decide +kernel
theorem dX9_tellAs_67 : decode cX9_tellAs 67 = .ok (.goto (-53), 3) := by decide +kernel
theorem dX9_tellAs_70 : decode cX9_tellAs 70 = .ok (.iconst 0, 1) := by decide +kernel
theorem dX9_tellAs_71 : decode cX9_tellAs 71 = .ok (.istore 4, 2) := by decide +kernel
theorem dX9_tellAs_73 : decode cX9_tellAs 73 = .ok (.iload 4, 2) := by decide +kernel
theorem dX9_tellAs_75 : decode cX9_tellAs 75 = .ok (.aload_n 0, 1) := by decide +kernel
theorem dX9_tellAs_76 : decode cX9_tellAs 76 = .ok (.getfield 88, 3) := by decide +kernel
theorem dX9_tellAs_79 : decode cX9_tellAs 79 = .ok (.if_icmp .ge 50, 3) := by decide +kernel
theorem dX9_tellAs_82 : decode cX9_tellAs 82 = .ok (.iload_n 3, 1) := by decide +kernel
theorem dX9_tellAs_83 : decode cX9_tellAs 83 = .ok (.aload_n 0, 1) := by decide +kernel
theorem dX9_tellAs_84 : decode cX9_tellAs 84 = .ok (.getfield 16, 3) := by decide +kernel
theorem dX9_tellAs_87 : decode cX9_tellAs 87 = .ok (.iload 4, 2) := by decide +kernel
theorem dX9_tellAs_89 : decode cX9_tellAs 89 = .ok (.iaload, 1) := by decide +kernel
theorem dX9_tellAs_90 : decode cX9_tellAs 90 = .ok (.aload_n 0, 1) := by decide +kernel
theorem dX9_tellAs_91 : decode cX9_tellAs 91 = .ok (.iload_n 1, 1) := by decide +kernel
theorem dX9_tellAs_92 : decode cX9_tellAs 92 = .ok (.iconst 0, 1) := by decide +kernel
theorem dX9_tellAs_93 : decode cX9_tellAs 93 = .ok (.iload 4, 2) := by decide +kernel
theorem dX9_tellAs_95 : decode cX9_tellAs 95 = .ok (.invokevirtual 128, 3) := by decide +kernel
theorem dX9_tellAs_98 : decode cX9_tellAs 98 = .ok (.if_icmp .eq 7, 3) := by decide +kernel
theorem dX9_tellAs_101 : decode cX9_tellAs 101 = .ok (.iconst 1, 1) := by decide +kernel
theorem dX9_tellAs_102 : decode cX9_tellAs 102 = .ok (.goto 4, 3) := by decide +kernel
theorem dX9_tellAs_105 : decode cX9_tellAs 105 = .ok (.iconst 0, 1) := by decide +kernel
theorem dX9_tellAs_106 : decode cX9_tellAs 106 = .ok (.iadd, 1) := by decide +kernel
theorem dX9_tellAs_107 : decode cX9_tellAs 107 = .ok (.istore_n 3, 1) := by decide +kernel
theorem dX9_tellAs_108 : decode cX9_tellAs 108 = .ok (.aload_n 0, 1) := by decide +kernel
theorem dX9_tellAs_109 : decode cX9_tellAs 109 = .ok (.getfield 16, 3) := by decide +kernel
theorem dX9_tellAs_112 : decode cX9_tellAs 112 = .ok (.iload 4, 2) := by decide +kernel
theorem dX9_tellAs_114 : decode cX9_tellAs 114 = .ok (.aload_n 0, 1) := by decide +kernel
theorem dX9_tellAs_115 : decode cX9_tellAs 115 = .ok (.iload_n 1, 1) := by decide +kernel
theorem dX9_tellAs_116 : decode cX9_tellAs 116 = .ok (.iconst 0, 1) := by decide +kernel
theorem dX9_tellAs_117 : decode cX9_tellAs 117 = .ok (.iload 4, 2) := by decide +kernel
theorem dX9_tellAs_119 : decode cX9_tellAs 119 = .ok (.invokevirtual 128, 3) := by decide +kernel
theorem dX9_tellAs_122 : decode cX9_tellAs 122 = .ok (.iastore, 1) := by decide +kernel
theorem dX9_tellAs_123 : decode cX9_tellAs 123 = .ok (.iinc 4 1, 3) := by decide +kernel
theorem dX9_tellAs_126 : decode cX9_tellAs 126 = .ok (.goto (-53), 3) := by decide +kernel
theorem dX9_tellAs_129 : decode cX9_tellAs 129 = .ok (.iconst 0, 1) := by decide +kernel
theorem dX9_tellAs_130 : decode cX9_tellAs 130 = .ok (.istore 4, 2) := by decide +kernel
theorem dX9_tellAs_132 : decode cX9_tellAs 132 = .ok (.iload 4, 2) := by decide +kernel
theorem dX9_tellAs_134 : decode cX9_tellAs 134 = .ok (.aload_n 0, 1) := by decide +kernel
theorem dX9_tellAs_135 : decode cX9_tellAs 135 = .ok (.invokevirtual 97, 3) := by decide +kernel
theorem dX9_tellAs_138 : decode cX9_tellAs 138 = .ok (.if_icmp .ge 64, 3) := by decide +kernel
theorem dX9_tellAs_141 : decode cX9_tellAs 141 = .ok (.iload_n 2, 1) := by decide +kernel
theorem dX9_tellAs_142 : decode cX9_tellAs 142 = .ok (.ifCond .eq 60, 3) := by decide +kernel
theorem dX9_tellAs_145 : decode cX9_tellAs 145 = .ok (.aload_n 0, 1) := by decide +kernel
theorem dX9_tellAs_146 : decode cX9_tellAs 146 = .ok (.getfield 7, 3) := by decide +kernel
theorem dX9_tellAs_149 : decode cX9_tellAs 149 = .ok (.bipush 25, 2) := by decide +kernel
theorem dX9_tellAs_151 : decode cX9_tellAs 151 = .ok (.iload_n 1, 1) := by decide +kernel
theorem dX9_tellAs_152 : decode cX9_tellAs 152 = .ok (.imul, 1) := by decide +kernel
theorem dX9_tellAs_153 : decode cX9_tellAs 153 = .ok (.iload 4, 2) := by decide +kernel
theorem dX9_tellAs_155 : decode cX9_tellAs 155 = .ok (.iadd, 1) := by decide +kernel
theorem dX9_tellAs_156 : decode cX9_tellAs 156 = .ok (.iaload, 1) := by decide +kernel
theorem dX9_tellAs_157 : decode cX9_tellAs 157 = .ok (.ifCond .le 7, 3) := by decide +kernel
theorem dX9_tellAs_160 : decode cX9_tellAs 160 = .ok (.iconst 1, 1) := by decide +kernel
theorem dX9_tellAs_161 : decode cX9_tellAs 161 = .ok (.goto 4, 3) := by decide +kernel
theorem dX9_tellAs_164 : decode cX9_tellAs 164 = .ok (.iconst 0, 1) := by decide +kernel
theorem dX9_tellAs_165 : decode cX9_tellAs 165 = .ok (.istore 5, 2) := by decide +kernel
theorem dX9_tellAs_167 : decode cX9_tellAs 167 = .ok (.iload_n 3, 1) := by decide +kernel
theorem dX9_tellAs_168 : decode cX9_tellAs 168 = .ok (.aload_n 0, 1) := by decide +kernel
theorem dX9_tellAs_169 : decode cX9_tellAs 169 = .ok (.getfield 19, 3) := by decide +kernel
theorem dX9_tellAs_172 : decode cX9_tellAs 172 = .ok (.iload 4, 2) := by decide +kernel
theorem dX9_tellAs_174 : decode cX9_tellAs 174 = .ok (.iaload, 1) := by decide +kernel
theorem dX9_tellAs_175 : decode cX9_tellAs 175 = .ok (.iload 5, 2) := by decide +kernel
theorem dX9_tellAs_177 : decode cX9_tellAs 177 = .ok (.if_icmp .eq 7, 3) := by decide +kernel
theorem dX9_tellAs_180 : decode cX9_tellAs 180 = .ok (.iconst 1, 1) := by decide +kernel
theorem dX9_tellAs_181 : decode cX9_tellAs 181 = .ok (.goto 4, 3) := by decide +kernel
theorem dX9_tellAs_184 : decode cX9_tellAs 184 = .ok (.iconst 0, 1) := by decide +kernel
theorem dX9_tellAs_185 : decode cX9_tellAs 185 = .ok (.iadd, 1) := by decide +kernel
theorem dX9_tellAs_186 : decode cX9_tellAs 186 = .ok (.istore_n 3, 1) := by decide +kernel
theorem dX9_tellAs_187 : decode cX9_tellAs 187 = .ok (.aload_n 0, 1) := by decide +kernel
theorem dX9_tellAs_188 : decode cX9_tellAs 188 = .ok (.getfield 19, 3) := by decide +kernel
theorem dX9_tellAs_191 : decode cX9_tellAs 191 = .ok (.iload 4, 2) := by decide +kernel
theorem dX9_tellAs_193 : decode cX9_tellAs 193 = .ok (.iload 5, 2) := by decide +kernel
theorem dX9_tellAs_195 : decode cX9_tellAs 195 = .ok (.iastore, 1) := by decide +kernel
theorem dX9_tellAs_196 : decode cX9_tellAs 196 = .ok (.iinc 4 1, 3) := by decide +kernel
theorem dX9_tellAs_199 : decode cX9_tellAs 199 = .ok (.goto (-67), 3) := by decide +kernel
theorem dX9_tellAs_202 : decode cX9_tellAs 202 = .ok (.iload_n 3, 1) := by decide +kernel
theorem dX9_tellAs_203 : decode cX9_tellAs 203 = .ok (.ireturn, 1) := by decide +kernel
set_option maxRecDepth 20000 in
theorem ggX9_isFit_X9_greatestOf : GoodIn wsX9_isFit wsX9_greatestOf := goodIn_r _ [11, 6, 12, 13, 14, 10, 15, 3, 1, 16, 17, 18, 19, 24, 25, 26, 27, 28, 29, 30, 31, 32, 33, 34, 35, 36, 37, 38, 39, 40, 41, 42, 43, 44, 45, 46, 47, 48, 49] (by decide +kernel) (by decide +kernel)
set_option maxRecDepth 20000 in
theorem gX9_isFit_X9_greatestOf : GoodIn wsX9_isFit (wsV RX9 128 RX9 yX9_greatestOf wsX9_greatestOf) := goodIn_app (goodIn_of _ (by decide +kernel)) ggX9_isFit_X9_greatestOf
set_option maxRecDepth 20000 in
theorem ggX9_isFit_X9_cells : GoodIn wsX9_isFit wsX9_cells := goodIn_r _ [23, 1, 3, 24, 25, 26, 27, 28, 29, 30, 31, 32, 33, 34, 35, 36, 37, 38, 39, 40, 41, 42, 43, 44, 45, 46, 47, 48, 49] (by decide +kernel) (by decide +kernel)
set_option maxRecDepth 20000 in
theorem gX9_isFit_X9_cells : GoodIn wsX9_isFit (wsV RX9 97 RX9 yX9_cells wsX9_cells) := goodIn_app (goodIn_of _ (by decide +kernel)) ggX9_isFit_X9_cells
theorem dX9_isFit_0 : decode cX9_isFit 0 = .ok (.iconst 1, 1) := by decide +kernel
theorem dX9_isFit_1 : decode cX9_isFit 1 = .ok (.istore_n 2, 1) := by decide +kernel
theorem dX9_isFit_2 : decode cX9_isFit 2 = .ok (.iconst 0, 1) := by decide +kernel
theorem dX9_isFit_3 : decode cX9_isFit 3 = .ok (.istore_n 3, 1) := by decide +kernel
theorem dX9_isFit_4 : decode cX9_isFit 4 = .ok (.iload_n 3, 1) := by decide +kernel
theorem dX9_isFit_5 : decode cX9_isFit 5 = .ok (.aload_n 0, 1) := by decide +kernel
theorem dX9_isFit_6 : decode cX9_isFit 6 = .ok (.getfield 85, 3) := by decide +kernel
theorem dX9_isFit_9 : decode cX9_isFit 9 = .ok (.if_icmp .ge 46, 3) := by decide +kernel
theorem dX9_isFit_12 : decode cX9_isFit 12 = .ok (.iload_n 2, 1) := by decide +kernel
theorem dX9_isFit_13 : decode cX9_isFit 13 = .ok (.ifCond .eq 34, 3) := by decide +kernel
theorem dX9_isFit_16 : decode cX9_isFit 16 = .ok (.aload_n 0, 1) := by decide +kernel
theorem dX9_isFit_17 : decode cX9_isFit 17 = .ok (.getfield 13, 3) := by decide +kernel
theorem dX9_isFit_20 : decode cX9_isFit 20 = .ok (.iload_n 3, 1) := by decide +kernel
theorem dX9_isFit_21 : decode cX9_isFit 21 = .ok (.iaload, 1) := by decide +kernel
theorem dX9_isFit_22 : decode cX9_isFit 22 = .ok (.bipush (-9), 2) := by decide +kernel
theorem dX9_isFit_24 : decode cX9_isFit 24 = .ok (.if_icmp .eq 19, 3) := by decide +kernel
theorem dX9_isFit_27 : decode cX9_isFit 27 = .ok (.aload_n 0, 1) := by decide +kernel
theorem dX9_isFit_28 : decode cX9_isFit 28 = .ok (.getfield 13, 3) := by decide +kernel
theorem dX9_isFit_31 : decode cX9_isFit 31 = .ok (.iload_n 3, 1) := by decide +kernel
theorem dX9_isFit_32 : decode cX9_isFit 32 = .ok (.iaload, 1) := by decide +kernel
theorem dX9_isFit_33 : decode cX9_isFit 33 = .ok (.aload_n 0, 1) := by decide +kernel
theorem dX9_isFit_34 : decode cX9_isFit 34 = .ok (.iload_n 1, 1) := by decide +kernel
theorem dX9_isFit_35 : decode cX9_isFit 35 = .ok (.iconst 1, 1) := by decide +kernel
theorem dX9_isFit_36 : decode cX9_isFit 36 = .ok (.iload_n 3, 1) := by decide +kernel
theorem dX9_isFit_37 : decode cX9_isFit 37 = .ok (.invokevirtual 128, 3) := by decide +kernel
theorem dX9_isFit_40 : decode cX9_isFit 40 = .ok (.if_icmp .ne 7, 3) := by decide +kernel
theorem dX9_isFit_43 : decode cX9_isFit 43 = .ok (.iconst 1, 1) := by decide +kernel
theorem dX9_isFit_44 : decode cX9_isFit 44 = .ok (.goto 4, 3) := by decide +kernel
theorem dX9_isFit_47 : decode cX9_isFit 47 = .ok (.iconst 0, 1) := by decide +kernel
theorem dX9_isFit_48 : decode cX9_isFit 48 = .ok (.istore_n 2, 1) := by decide +kernel
theorem dX9_isFit_49 : decode cX9_isFit 49 = .ok (.iinc 3 1, 3) := by decide +kernel
theorem dX9_isFit_52 : decode cX9_isFit 52 = .ok (.goto (-48), 3) := by decide +kernel
theorem dX9_isFit_55 : decode cX9_isFit 55 = .ok (.iconst 0, 1) := by decide +kernel
theorem dX9_isFit_56 : decode cX9_isFit 56 = .ok (.istore_n 3, 1) := by decide +kernel
theorem dX9_isFit_57 : decode cX9_isFit 57 = .ok (.iload_n 3, 1) := by decide +kernel
theorem dX9_isFit_58 : decode cX9_isFit 58 = .ok (.aload_n 0, 1) := by decide +kernel
theorem dX9_isFit_59 : decode cX9_isFit 59 = .ok (.getfield 88, 3) := by decide +kernel
theorem dX9_isFit_62 : decode cX9_isFit 62 = .ok (.if_icmp .ge 46, 3) := by decide +kernel
theorem dX9_isFit_65 : decode cX9_isFit 65 = .ok (.iload_n 2, 1) := by decide +kernel
theorem dX9_isFit_66 : decode cX9_isFit 66 = .ok (.ifCond .eq 34, 3) := by decide +kernel
theorem dX9_isFit_69 : decode cX9_isFit 69 = .ok (.aload_n 0, 1) := by decide +kernel
theorem dX9_isFit_70 : decode cX9_isFit 70 = .ok (.getfield 16, 3) := by decide +kernel
theorem dX9_isFit_73 : decode cX9_isFit 73 = .ok (.iload_n 3, 1) := by decide +kernel
theorem dX9_isFit_74 : decode cX9_isFit 74 = .ok (.iaload, 1) := by decide +kernel
theorem dX9_isFit_75 : decode cX9_isFit 75 = .ok (.bipush (-9), 2) := by decide +kernel
theorem dX9_isFit_77 : decode cX9_isFit 77 = .ok (.if_icmp .eq 19, 3) := by decide +kernel
theorem dX9_isFit_80 : decode cX9_isFit 80 = .ok (.aload_n 0, 1) := by decide +kernel
theorem dX9_isFit_81 : decode cX9_isFit 81 = .ok (.getfield 16, 3) := by decide +kernel
theorem dX9_isFit_84 : decode cX9_isFit 84 = .ok (.iload_n 3, 1) := by decide +kernel
theorem dX9_isFit_85 : decode cX9_isFit 85 = .ok (.iaload, 1) := by decide +kernel
theorem dX9_isFit_86 : decode cX9_isFit 86 = .ok (.aload_n 0, 1) := by decide +kernel
theorem dX9_isFit_87 : decode cX9_isFit 87 = .ok (.iload_n 1, 1) := by decide +kernel
theorem dX9_isFit_88 : decode cX9_isFit 88 = .ok (.iconst 0, 1) := by decide +kernel
theorem dX9_isFit_89 : decode cX9_isFit 89 = .ok (.iload_n 3, 1) := by decide +kernel
theorem dX9_isFit_90 : decode cX9_isFit 90 = .ok (.invokevirtual 128, 3) := by decide +kernel
theorem dX9_isFit_93 : decode cX9_isFit 93 = .ok (.if_icmp .ne 7, 3) := by decide +kernel
theorem dX9_isFit_96 : decode cX9_isFit 96 = .ok (.iconst 1, 1) := by decide +kernel
theorem dX9_isFit_97 : decode cX9_isFit 97 = .ok (.goto 4, 3) := by decide +kernel
theorem dX9_isFit_100 : decode cX9_isFit 100 = .ok (.iconst 0, 1) := by decide +kernel
theorem dX9_isFit_101 : decode cX9_isFit 101 = .ok (.istore_n 2, 1) := by decide +kernel
theorem dX9_isFit_102 : decode cX9_isFit 102 = .ok (.iinc 3 1, 3) := by decide +kernel
theorem dX9_isFit_105 : decode cX9_isFit 105 = .ok (.goto (-48), 3) := by decide +kernel
theorem dX9_isFit_108 : decode cX9_isFit 108 = .ok (.iconst 0, 1) := by decide +kernel
theorem dX9_isFit_109 : decode cX9_isFit 109 = .ok (.istore_n 3, 1) := by decide +kernel
theorem dX9_isFit_110 : decode cX9_isFit 110 = .ok (.iload_n 3, 1) := by decide +kernel
theorem dX9_isFit_111 : decode cX9_isFit 111 = .ok (.aload_n 0, 1) := by decide +kernel
theorem dX9_isFit_112 : decode cX9_isFit 112 = .ok (.invokevirtual 97, 3) := by decide +kernel
theorem dX9_isFit_115 : decode cX9_isFit 115 = .ok (.if_icmp .ge 58, 3) := by decide +kernel
theorem dX9_isFit_118 : decode cX9_isFit 118 = .ok (.iload_n 2, 1) := by decide +kernel
theorem dX9_isFit_119 : decode cX9_isFit 119 = .ok (.ifCond .eq 46, 3) := by decide +kernel
theorem dX9_isFit_122 : decode cX9_isFit 122 = .ok (.aload_n 0, 1) := by decide +kernel
theorem dX9_isFit_123 : decode cX9_isFit 123 = .ok (.getfield 19, 3) := by decide +kernel
theorem dX9_isFit_126 : decode cX9_isFit 126 = .ok (.iload_n 3, 1) := by decide +kernel
theorem dX9_isFit_127 : decode cX9_isFit 127 = .ok (.iaload, 1) := by decide +kernel
theorem dX9_isFit_128 : decode cX9_isFit 128 = .ok (.bipush (-9), 2) := by decide +kernel
theorem dX9_isFit_130 : decode cX9_isFit 130 = .ok (.if_icmp .eq 31, 3) := by decide +kernel
theorem dX9_isFit_133 : decode cX9_isFit 133 = .ok (.aload_n 0, 1) := by decide +kernel
theorem dX9_isFit_134 : decode cX9_isFit 134 = .ok (.getfield 19, 3) := by decide +kernel
theorem dX9_isFit_137 : decode cX9_isFit 137 = .ok (.iload_n 3, 1) := by decide +kernel
theorem dX9_isFit_138 : decode cX9_isFit 138 = .ok (.iaload, 1) := by decide +kernel
theorem dX9_isFit_139 : decode cX9_isFit 139 = .ok (.aload_n 0, 1) := by decide +kernel
theorem dX9_isFit_140 : decode cX9_isFit 140 = .ok (.getfield 7, 3) := by decide +kernel
theorem dX9_isFit_143 : decode cX9_isFit 143 = .ok (.bipush 25, 2) := by decide +kernel
theorem dX9_isFit_145 : decode cX9_isFit 145 = .ok (.iload_n 1, 1) := by decide +kernel
theorem dX9_isFit_146 : decode cX9_isFit 146 = .ok (.imul, 1) := by decide +kernel
theorem dX9_isFit_147 : decode cX9_isFit 147 = .ok (.iload_n 3, 1) := by decide +kernel
theorem dX9_isFit_148 : decode cX9_isFit 148 = .ok (.iadd, 1) := by decide +kernel
theorem dX9_isFit_149 : decode cX9_isFit 149 = .ok (.iaload, 1) := by decide +kernel
theorem dX9_isFit_150 : decode cX9_isFit 150 = .ok (.ifCond .le 7, 3) := by decide +kernel
theorem dX9_isFit_153 : decode cX9_isFit 153 = .ok (.iconst 1, 1) := by decide +kernel
theorem dX9_isFit_154 : decode cX9_isFit 154 = .ok (.goto 4, 3) := by decide +kernel
theorem dX9_isFit_157 : decode cX9_isFit 157 = .ok (.iconst 0, 1) := by decide +kernel
theorem dX9_isFit_158 : decode cX9_isFit 158 = .ok (.if_icmp .ne 7, 3) := by decide +kernel
theorem dX9_isFit_161 : decode cX9_isFit 161 = .ok (.iconst 1, 1) := by decide +kernel
theorem dX9_isFit_162 : decode cX9_isFit 162 = .ok (.goto 4, 3) := by decide +kernel
theorem dX9_isFit_165 : decode cX9_isFit 165 = .ok (.iconst 0, 1) := by decide +kernel
theorem dX9_isFit_166 : decode cX9_isFit 166 = .ok (.istore_n 2, 1) := by decide +kernel
theorem dX9_isFit_167 : decode cX9_isFit 167 = .ok (.iinc 3 1, 3) := by decide +kernel
theorem dX9_isFit_170 : decode cX9_isFit 170 = .ok (.goto (-60), 3) := by decide +kernel
theorem dX9_isFit_173 : decode cX9_isFit 173 = .ok (.iload_n 2, 1) := by decide +kernel
theorem dX9_isFit_174 : decode cX9_isFit 174 = .ok (.ireturn, 1) := by decide +kernel
set_option maxRecDepth 20000 in
theorem ggX9_fits_X9_isSlot : GoodIn wsX9_fits wsX9_isSlot := goodIn_r _ [4, 5, 6, 7, 3, 8] (by decide +kernel) (by decide +kernel)
set_option maxRecDepth 20000 in
theorem gX9_fits_X9_isSlot : GoodIn wsX9_fits (va_wsS RX9 103 yX9_isSlot wsX9_isSlot) := goodIn_app (goodIn_of _ (by decide +kernel)) ggX9_fits_X9_isSlot
set_option maxRecDepth 20000 in
theorem ggX9_fits_X9_isFit : GoodIn wsX9_fits wsX9_isFit := goodIn_r _ [12, 13, 14, 15, 16, 17, 18, 19, 20, 21, 3, 22, 23, 24, 25, 26, 27, 28, 29, 30, 31, 32, 33, 34, 35, 36, 37, 38, 39, 40, 41, 42, 43, 44, 45, 46, 47, 48, 49, 50, 51, 52, 53, 54, 55, 56, 57, 58, 59, 60] (by decide +kernel) (by decide +kernel)
set_option maxRecDepth 20000 in
theorem gX9_fits_X9_isFit : GoodIn wsX9_fits (wsV RX9 146 RX9 yX9_isFit wsX9_isFit) := goodIn_app (goodIn_of _ (by decide +kernel)) ggX9_fits_X9_isFit
theorem dX9_fits_0 : decode cX9_fits 0 = .ok (.iload_n 1, 1) := by decide +kernel
theorem dX9_fits_1 : decode cX9_fits 1 = .ok (.invokestatic 103, 3) := by decide +kernel
theorem dX9_fits_4 : decode cX9_fits 4 = .ok (.ifCond .ne 7, 3) := by decide +kernel
theorem dX9_fits_7 : decode cX9_fits 7 = .ok (.iconst (-1), 1) := by decide +kernel
theorem dX9_fits_8 : decode cX9_fits 8 = .ok (.goto 16, 3) := by decide +kernel
theorem dX9_fits_11 : decode cX9_fits 11 = .ok (.aload_n 0, 1) := by decide +kernel
theorem dX9_fits_12 : decode cX9_fits 12 = .ok (.iload_n 1, 1) := by decide +kernel
theorem dX9_fits_13 : decode cX9_fits 13 = .ok (.invokevirtual 146, 3) := by decide +kernel
theorem dX9_fits_16 : decode cX9_fits 16 = .ok (.ifCond .eq 7, 3) := by decide +kernel
theorem dX9_fits_19 : decode cX9_fits 19 = .ok (.iconst 1, 1) := by decide +kernel
theorem dX9_fits_20 : decode cX9_fits 20 = .ok (.goto 4, 3) := by decide +kernel
theorem dX9_fits_23 : decode cX9_fits 23 = .ok (.iconst 0, 1) := by decide +kernel
theorem dX9_fits_24 : decode cX9_fits 24 = .ok (.ireturn, 1) := by decide +kernel
theorem dX9_then_0 : decode cX9_then 0 = .ok (.iload_n 1, 1) := by decide +kernel
theorem dX9_then_1 : decode cX9_then 1 = .ok (.aload_n 0, 1) := by decide +kernel
theorem dX9_then_2 : decode cX9_then 2 = .ok (.getfield 85, 3) := by decide +kernel
theorem dX9_then_5 : decode cX9_then 5 = .ok (.irem, 1) := by decide +kernel
theorem dX9_then_6 : decode cX9_then 6 = .ok (.istore 4, 2) := by decide +kernel
theorem dX9_then_8 : decode cX9_then 8 = .ok (.iload_n 1, 1) := by decide +kernel
theorem dX9_then_9 : decode cX9_then 9 = .ok (.aload_n 0, 1) := by decide +kernel
theorem dX9_then_10 : decode cX9_then 10 = .ok (.getfield 85, 3) := by decide +kernel
theorem dX9_then_13 : decode cX9_then 13 = .ok (.idiv, 1) := by decide +kernel
theorem dX9_then_14 : decode cX9_then 14 = .ok (.istore 5, 2) := by decide +kernel
theorem dX9_then_16 : decode cX9_then 16 = .ok (.aload_n 0, 1) := by decide +kernel
theorem dX9_then_17 : decode cX9_then 17 = .ok (.getfield 13, 3) := by decide +kernel
theorem dX9_then_20 : decode cX9_then 20 = .ok (.iload 4, 2) := by decide +kernel
theorem dX9_then_22 : decode cX9_then 22 = .ok (.iaload, 1) := by decide +kernel
theorem dX9_then_23 : decode cX9_then 23 = .ok (.bipush (-9), 2) := by decide +kernel
theorem dX9_then_25 : decode cX9_then 25 = .ok (.if_icmp .eq 14, 3) := by decide +kernel
theorem dX9_then_28 : decode cX9_then 28 = .ok (.iload_n 3, 1) := by decide +kernel
theorem dX9_then_29 : decode cX9_then 29 = .ok (.aload_n 0, 1) := by decide +kernel
theorem dX9_then_30 : decode cX9_then 30 = .ok (.getfield 13, 3) := by decide +kernel
theorem dX9_then_33 : decode cX9_then 33 = .ok (.iload 4, 2) := by decide +kernel
theorem dX9_then_35 : decode cX9_then 35 = .ok (.iaload, 1) := by decide +kernel
theorem dX9_then_36 : decode cX9_then 36 = .ok (.if_icmp .gt 75, 3) := by decide +kernel
theorem dX9_then_39 : decode cX9_then 39 = .ok (.aload_n 0, 1) := by decide +kernel
theorem dX9_then_40 : decode cX9_then 40 = .ok (.getfield 16, 3) := by decide +kernel
theorem dX9_then_43 : decode cX9_then 43 = .ok (.iload 5, 2) := by decide +kernel
theorem dX9_then_45 : decode cX9_then 45 = .ok (.iaload, 1) := by decide +kernel
theorem dX9_then_46 : decode cX9_then 46 = .ok (.bipush (-9), 2) := by decide +kernel
theorem dX9_then_48 : decode cX9_then 48 = .ok (.if_icmp .eq 14, 3) := by decide +kernel
theorem dX9_then_51 : decode cX9_then 51 = .ok (.iload_n 3, 1) := by decide +kernel
theorem dX9_then_52 : decode cX9_then 52 = .ok (.aload_n 0, 1) := by decide +kernel
theorem dX9_then_53 : decode cX9_then 53 = .ok (.getfield 16, 3) := by decide +kernel
theorem dX9_then_56 : decode cX9_then 56 = .ok (.iload 5, 2) := by decide +kernel
theorem dX9_then_58 : decode cX9_then 58 = .ok (.iaload, 1) := by decide +kernel
theorem dX9_then_59 : decode cX9_then 59 = .ok (.if_icmp .gt 52, 3) := by decide +kernel
theorem dX9_then_62 : decode cX9_then 62 = .ok (.aload_n 0, 1) := by decide +kernel
theorem dX9_then_63 : decode cX9_then 63 = .ok (.getfield 19, 3) := by decide +kernel
theorem dX9_then_66 : decode cX9_then 66 = .ok (.iload_n 1, 1) := by decide +kernel
theorem dX9_then_67 : decode cX9_then 67 = .ok (.iaload, 1) := by decide +kernel
theorem dX9_then_68 : decode cX9_then 68 = .ok (.bipush (-9), 2) := by decide +kernel
theorem dX9_then_70 : decode cX9_then 70 = .ok (.if_icmp .eq 21, 3) := by decide +kernel
theorem dX9_then_73 : decode cX9_then 73 = .ok (.aload_n 0, 1) := by decide +kernel
theorem dX9_then_74 : decode cX9_then 74 = .ok (.getfield 19, 3) := by decide +kernel
theorem dX9_then_77 : decode cX9_then 77 = .ok (.iload_n 1, 1) := by decide +kernel
theorem dX9_then_78 : decode cX9_then 78 = .ok (.iaload, 1) := by decide +kernel
theorem dX9_then_79 : decode cX9_then 79 = .ok (.iload_n 3, 1) := by decide +kernel
theorem dX9_then_80 : decode cX9_then 80 = .ok (.ifCond .le 7, 3) := by decide +kernel
theorem dX9_then_83 : decode cX9_then 83 = .ok (.iconst 1, 1) := by decide +kernel
theorem dX9_then_84 : decode cX9_then 84 = .ok (.goto 4, 3) := by decide +kernel
theorem dX9_then_87 : decode cX9_then 87 = .ok (.iconst 0, 1) := by decide +kernel
theorem dX9_then_88 : decode cX9_then 88 = .ok (.if_icmp .ne 23, 3) := by decide +kernel
theorem dX9_then_91 : decode cX9_then 91 = .ok (.aload_n 0, 1) := by decide +kernel
theorem dX9_then_92 : decode cX9_then 92 = .ok (.getfield 38, 3) := by decide +kernel
theorem dX9_then_95 : decode cX9_then 95 = .ok (.iload_n 1, 1) := by decide +kernel
theorem dX9_then_96 : decode cX9_then 96 = .ok (.if_icmp .ne 11, 3) := by decide +kernel
theorem dX9_then_99 : decode cX9_then 99 = .ok (.aload_n 0, 1) := by decide +kernel
theorem dX9_then_100 : decode cX9_then 100 = .ok (.getfield 149, 3) := by decide +kernel
theorem dX9_then_103 : decode cX9_then 103 = .ok (.iload_n 3, 1) := by decide +kernel
theorem dX9_then_104 : decode cX9_then 104 = .ok (.if_icmp .ne 7, 3) := by decide +kernel
theorem dX9_then_107 : decode cX9_then 107 = .ok (.iconst 1, 1) := by decide +kernel
theorem dX9_then_108 : decode cX9_then 108 = .ok (.goto 4, 3) := by decide +kernel
theorem dX9_then_111 : decode cX9_then 111 = .ok (.iconst 0, 1) := by decide +kernel
theorem dX9_then_112 : decode cX9_then 112 = .ok (.istore 6, 2) := by decide +kernel
theorem dX9_then_114 : decode cX9_then 114 = .ok (.iload 6, 2) := by decide +kernel
theorem dX9_then_116 : decode cX9_then 116 = .ok (.ifCond .ne 6, 3) := by decide +kernel
theorem dX9_then_119 : decode cX9_then 119 = .ok (.bipush (-9), 2) := by decide +kernel
theorem dX9_then_121 : decode cX9_then 121 = .ok (.ireturn, 1) := by decide +kernel
theorem dX9_then_122 : decode cX9_then 122 = .ok (.iload_n 2, 1) := by decide +kernel
theorem dX9_then_123 : decode cX9_then 123 = .ok (.iconst 2, 1) := by decide +kernel
theorem dX9_then_124 : decode cX9_then 124 = .ok (.idiv, 1) := by decide +kernel
theorem dX9_then_125 : decode cX9_then 125 = .ok (.istore 7, 2) := by decide +kernel
theorem dX9_then_127 : decode cX9_then 127 = .ok (.iload 4, 2) := by decide +kernel
theorem dX9_then_129 : decode cX9_then 129 = .ok (.ifCond .ne 7, 3) := by decide +kernel
theorem dX9_then_132 : decode cX9_then 132 = .ok (.iconst 0, 1) := by decide +kernel
theorem dX9_then_133 : decode cX9_then 133 = .ok (.goto 6, 3) := by decide +kernel
theorem dX9_then_136 : decode cX9_then 136 = .ok (.iload_n 2, 1) := by decide +kernel
theorem dX9_then_137 : decode cX9_then 137 = .ok (.iconst 2, 1) := by decide +kernel
theorem dX9_then_138 : decode cX9_then 138 = .ok (.irem, 1) := by decide +kernel
theorem dX9_then_139 : decode cX9_then 139 = .ok (.istore 8, 2) := by decide +kernel
theorem dX9_then_141 : decode cX9_then 141 = .ok (.iload 7, 2) := by decide +kernel
theorem dX9_then_143 : decode cX9_then 143 = .ok (.aload_n 0, 1) := by decide +kernel
theorem dX9_then_144 : decode cX9_then 144 = .ok (.getfield 13, 3) := by decide +kernel
theorem dX9_then_147 : decode cX9_then 147 = .ok (.iload 4, 2) := by decide +kernel
theorem dX9_then_149 : decode cX9_then 149 = .ok (.iaload, 1) := by decide +kernel
theorem dX9_then_150 : decode cX9_then 150 = .ok (.bipush (-9), 2) := by decide +kernel
theorem dX9_then_152 : decode cX9_then 152 = .ok (.if_icmp .eq 14, 3) := by decide +kernel
theorem dX9_then_155 : decode cX9_then 155 = .ok (.aload_n 0, 1) := by decide +kernel
theorem dX9_then_156 : decode cX9_then 156 = .ok (.getfield 13, 3) := by decide +kernel
theorem dX9_then_159 : decode cX9_then 159 = .ok (.iload 4, 2) := by decide +kernel
theorem dX9_then_161 : decode cX9_then 161 = .ok (.iaload, 1) := by decide +kernel
theorem dX9_then_162 : decode cX9_then 162 = .ok (.iload_n 3, 1) := by decide +kernel
theorem dX9_then_163 : decode cX9_then 163 = .ok (.if_icmp .ne 10, 3) := by decide +kernel
theorem dX9_then_166 : decode cX9_then 166 = .ok (.iconst 1, 1) := by decide +kernel
theorem dX9_then_167 : decode cX9_then 167 = .ok (.iload 4, 2) := by decide +kernel
theorem dX9_then_169 : decode cX9_then 169 = .ok (.ishl, 1) := by decide +kernel
theorem dX9_then_170 : decode cX9_then 170 = .ok (.goto 4, 3) := by decide +kernel
theorem dX9_then_173 : decode cX9_then 173 = .ok (.iconst 0, 1) := by decide +kernel
theorem dX9_then_174 : decode cX9_then 174 = .ok (.ior, 1) := by decide +kernel
theorem dX9_then_175 : decode cX9_then 175 = .ok (.istore 7, 2) := by decide +kernel
theorem dX9_then_177 : decode cX9_then 177 = .ok (.iload 8, 2) := by decide +kernel
theorem dX9_then_179 : decode cX9_then 179 = .ok (.aload_n 0, 1) := by decide +kernel
theorem dX9_then_180 : decode cX9_then 180 = .ok (.getfield 16, 3) := by decide +kernel
theorem dX9_then_183 : decode cX9_then 183 = .ok (.iload 5, 2) := by decide +kernel
theorem dX9_then_185 : decode cX9_then 185 = .ok (.iaload, 1) := by decide +kernel
theorem dX9_then_186 : decode cX9_then 186 = .ok (.bipush (-9), 2) := by decide +kernel
theorem dX9_then_188 : decode cX9_then 188 = .ok (.if_icmp .eq 14, 3) := by decide +kernel
theorem dX9_then_191 : decode cX9_then 191 = .ok (.aload_n 0, 1) := by decide +kernel
theorem dX9_then_192 : decode cX9_then 192 = .ok (.getfield 16, 3) := by decide +kernel
theorem dX9_then_195 : decode cX9_then 195 = .ok (.iload 5, 2) := by decide +kernel
theorem dX9_then_197 : decode cX9_then 197 = .ok (.iaload, 1) := by decide +kernel
theorem dX9_then_198 : decode cX9_then 198 = .ok (.iload_n 3, 1) := by decide +kernel
theorem dX9_then_199 : decode cX9_then 199 = .ok (.if_icmp .ne 7, 3) := by decide +kernel
theorem dX9_then_202 : decode cX9_then 202 = .ok (.iconst 1, 1) := by decide +kernel
theorem dX9_then_203 : decode cX9_then 203 = .ok (.goto 4, 3) := by decide +kernel
theorem dX9_then_206 : decode cX9_then 206 = .ok (.iconst 0, 1) := by decide +kernel
theorem dX9_then_207 : decode cX9_then 207 = .ok (.ior, 1) := by decide +kernel
theorem dX9_then_208 : decode cX9_then 208 = .ok (.istore 8, 2) := by decide +kernel
theorem dX9_then_210 : decode cX9_then 210 = .ok (.iload 4, 2) := by decide +kernel
theorem dX9_then_212 : decode cX9_then 212 = .ok (.aload_n 0, 1) := by decide +kernel
theorem dX9_then_213 : decode cX9_then 213 = .ok (.getfield 85, 3) := by decide +kernel
theorem dX9_then_216 : decode cX9_then 216 = .ok (.iconst 1, 1) := by decide +kernel
theorem dX9_then_217 : decode cX9_then 217 = .ok (.isub, 1) := by decide +kernel
theorem dX9_then_218 : decode cX9_then 218 = .ok (.if_icmp .ne 8, 3) := by decide +kernel
theorem dX9_then_221 : decode cX9_then 221 = .ok (.iload 8, 2) := by decide +kernel
theorem dX9_then_223 : decode cX9_then 223 = .ok (.ifCond .eq 24, 3) := by decide +kernel
theorem dX9_then_226 : decode cX9_then 226 = .ok (.iload 5, 2) := by decide +kernel
theorem dX9_then_228 : decode cX9_then 228 = .ok (.aload_n 0, 1) := by decide +kernel
theorem dX9_then_229 : decode cX9_then 229 = .ok (.getfield 88, 3) := by decide +kernel
theorem dX9_then_232 : decode cX9_then 232 = .ok (.iconst 1, 1) := by decide +kernel
theorem dX9_then_233 : decode cX9_then 233 = .ok (.isub, 1) := by decide +kernel
theorem dX9_then_234 : decode cX9_then 234 = .ok (.if_icmp .ne 17, 3) := by decide +kernel
theorem dX9_then_237 : decode cX9_then 237 = .ok (.iload 7, 2) := by decide +kernel
theorem dX9_then_239 : decode cX9_then 239 = .ok (.iload 4, 2) := by decide +kernel
theorem dX9_then_241 : decode cX9_then 241 = .ok (.ishr, 1) := by decide +kernel
theorem dX9_then_242 : decode cX9_then 242 = .ok (.iconst 1, 1) := by decide +kernel
theorem dX9_then_243 : decode cX9_then 243 = .ok (.iand, 1) := by decide +kernel
theorem dX9_then_244 : decode cX9_then 244 = .ok (.ifCond .ne 7, 3) := by decide +kernel
theorem dX9_then_247 : decode cX9_then 247 = .ok (.iconst 1, 1) := by decide +kernel
theorem dX9_then_248 : decode cX9_then 248 = .ok (.goto 4, 3) := by decide +kernel
theorem dX9_then_251 : decode cX9_then 251 = .ok (.iconst 0, 1) := by decide +kernel
theorem dX9_then_252 : decode cX9_then 252 = .ok (.istore 9, 2) := by decide +kernel
theorem dX9_then_254 : decode cX9_then 254 = .ok (.iload 9, 2) := by decide +kernel
theorem dX9_then_256 : decode cX9_then 256 = .ok (.ifCond .eq 8, 3) := by decide +kernel
theorem dX9_then_259 : decode cX9_then 259 = .ok (.bipush (-9), 2) := by decide +kernel
theorem dX9_then_261 : decode cX9_then 261 = .ok (.goto 10, 3) := by decide +kernel
theorem dX9_then_264 : decode cX9_then 264 = .ok (.iconst 2, 1) := by decide +kernel
theorem dX9_then_265 : decode cX9_then 265 = .ok (.iload 7, 2) := by decide +kernel
theorem dX9_then_267 : decode cX9_then 267 = .ok (.imul, 1) := by decide +kernel
theorem dX9_then_268 : decode cX9_then 268 = .ok (.iload 8, 2) := by decide +kernel
theorem dX9_then_270 : decode cX9_then 270 = .ok (.iadd, 1) := by decide +kernel
theorem dX9_then_271 : decode cX9_then 271 = .ok (.ireturn, 1) := by decide +kernel
set_option maxRecDepth 20000 in
theorem ggX9_layWays_X9_cells : GoodIn wsX9_layWays wsX9_cells := goodIn_r _ [6, 7, 8, 18, 19, 20, 21, 22, 23, 24, 25, 26, 27, 28, 29, 30, 31, 32, 33, 34, 35, 36, 37, 38, 39, 40, 41, 42, 43] (by decide +kernel) (by decide +kernel)
set_option maxRecDepth 20000 in
theorem gX9_layWays_X9_cells : GoodIn wsX9_layWays (wsV RX9 97 RX9 yX9_cells wsX9_cells) := goodIn_app (goodIn_of _ (by decide +kernel)) ggX9_layWays_X9_cells
set_option maxRecDepth 20000 in
theorem ggX9_layWays_X9_then : GoodIn wsX9_layWays wsX9_then := goodIn_r _ [12, 7, 13, 14, 15, 16, 17, 8, 18, 19, 20, 21, 22, 23, 24, 25, 26, 27, 28, 29, 30, 31, 32, 33, 34, 35, 36, 37, 38, 39, 40, 41, 42, 43] (by decide +kernel) (by decide +kernel)
set_option maxRecDepth 20000 in
theorem gX9_layWays_X9_then : GoodIn wsX9_layWays (wsV RX9 152 RX9 yX9_then wsX9_then) := goodIn_app (goodIn_of _ (by decide +kernel)) ggX9_layWays_X9_then
theorem dX9_layWays_0 : decode cX9_layWays 0 = .ok (.iconst 0, 1) := by decide +kernel
theorem dX9_layWays_1 : decode cX9_layWays 1 = .ok (.istore_n 1, 1) := by decide +kernel
theorem dX9_layWays_2 : decode cX9_layWays 2 = .ok (.iload_n 1, 1) := by decide +kernel
theorem dX9_layWays_3 : decode cX9_layWays 3 = .ok (.bipush 64, 2) := by decide +kernel
theorem dX9_layWays_5 : decode cX9_layWays 5 = .ok (.if_icmp .ge 24, 3) := by decide +kernel
theorem dX9_layWays_8 : decode cX9_layWays 8 = .ok (.aload_n 0, 1) := by decide +kernel
theorem dX9_layWays_9 : decode cX9_layWays 9 = .ok (.getfield 31, 3) := by decide +kernel
theorem dX9_layWays_12 : decode cX9_layWays 12 = .ok (.bipush 64, 2) := by decide +kernel
theorem dX9_layWays_14 : decode cX9_layWays 14 = .ok (.aload_n 0, 1) := by decide +kernel
theorem dX9_layWays_15 : decode cX9_layWays 15 = .ok (.invokevirtual 97, 3) := by decide +kernel
theorem dX9_layWays_18 : decode cX9_layWays 18 = .ok (.imul, 1) := by decide +kernel
theorem dX9_layWays_19 : decode cX9_layWays 19 = .ok (.iload_n 1, 1) := by decide +kernel
theorem dX9_layWays_20 : decode cX9_layWays 20 = .ok (.iadd, 1) := by decide +kernel
theorem dX9_layWays_21 : decode cX9_layWays 21 = .ok (.lconst 1, 1) := by decide +kernel
theorem dX9_layWays_22 : decode cX9_layWays 22 = .ok (.lastore, 1) := by decide +kernel
theorem dX9_layWays_23 : decode cX9_layWays 23 = .ok (.iinc 1 1, 3) := by decide +kernel
theorem dX9_layWays_26 : decode cX9_layWays 26 = .ok (.goto (-24), 3) := by decide +kernel
theorem dX9_layWays_29 : decode cX9_layWays 29 = .ok (.aload_n 0, 1) := by decide +kernel
theorem dX9_layWays_30 : decode cX9_layWays 30 = .ok (.invokevirtual 97, 3) := by decide +kernel
theorem dX9_layWays_33 : decode cX9_layWays 33 = .ok (.iconst 1, 1) := by decide +kernel
theorem dX9_layWays_34 : decode cX9_layWays 34 = .ok (.isub, 1) := by decide +kernel
theorem dX9_layWays_35 : decode cX9_layWays 35 = .ok (.istore_n 1, 1) := by decide +kernel
theorem dX9_layWays_36 : decode cX9_layWays 36 = .ok (.iload_n 1, 1) := by decide +kernel
theorem dX9_layWays_37 : decode cX9_layWays 37 = .ok (.ifCond .lt 91, 3) := by decide +kernel
theorem dX9_layWays_40 : decode cX9_layWays 40 = .ok (.iconst 0, 1) := by decide +kernel
theorem dX9_layWays_41 : decode cX9_layWays 41 = .ok (.istore_n 2, 1) := by decide +kernel
theorem dX9_layWays_42 : decode cX9_layWays 42 = .ok (.iload_n 2, 1) := by decide +kernel
theorem dX9_layWays_43 : decode cX9_layWays 43 = .ok (.bipush 64, 2) := by decide +kernel
theorem dX9_layWays_45 : decode cX9_layWays 45 = .ok (.if_icmp .ge 77, 3) := by decide +kernel
theorem dX9_layWays_48 : decode cX9_layWays 48 = .ok (.lconst 0, 1) := by decide +kernel
theorem dX9_layWays_49 : decode cX9_layWays 49 = .ok (.lstore_n 3, 1) := by decide +kernel
theorem dX9_layWays_50 : decode cX9_layWays 50 = .ok (.iconst 0, 1) := by decide +kernel
theorem dX9_layWays_51 : decode cX9_layWays 51 = .ok (.istore 5, 2) := by decide +kernel
theorem dX9_layWays_53 : decode cX9_layWays 53 = .ok (.iload 5, 2) := by decide +kernel
theorem dX9_layWays_55 : decode cX9_layWays 55 = .ok (.iconst 5, 1) := by decide +kernel
theorem dX9_layWays_56 : decode cX9_layWays 56 = .ok (.if_icmp .ge 48, 3) := by decide +kernel
theorem dX9_layWays_59 : decode cX9_layWays 59 = .ok (.aload_n 0, 1) := by decide +kernel
theorem dX9_layWays_60 : decode cX9_layWays 60 = .ok (.iload_n 1, 1) := by decide +kernel
theorem dX9_layWays_61 : decode cX9_layWays 61 = .ok (.iload_n 2, 1) := by decide +kernel
theorem dX9_layWays_62 : decode cX9_layWays 62 = .ok (.iload 5, 2) := by decide +kernel
theorem dX9_layWays_64 : decode cX9_layWays 64 = .ok (.invokevirtual 152, 3) := by decide +kernel
theorem dX9_layWays_67 : decode cX9_layWays 67 = .ok (.istore 6, 2) := by decide +kernel
theorem dX9_layWays_69 : decode cX9_layWays 69 = .ok (.lload_n 3, 1) := by decide +kernel
theorem dX9_layWays_70 : decode cX9_layWays 70 = .ok (.iload 6, 2) := by decide +kernel
theorem dX9_layWays_72 : decode cX9_layWays 72 = .ok (.bipush (-9), 2) := by decide +kernel
theorem dX9_layWays_74 : decode cX9_layWays 74 = .ok (.if_icmp .ne 7, 3) := by decide +kernel
theorem dX9_layWays_77 : decode cX9_layWays 77 = .ok (.lconst 0, 1) := by decide +kernel
theorem dX9_layWays_78 : decode cX9_layWays 78 = .ok (.goto 18, 3) := by decide +kernel
theorem dX9_layWays_81 : decode cX9_layWays 81 = .ok (.aload_n 0, 1) := by decide +kernel
theorem dX9_layWays_82 : decode cX9_layWays 82 = .ok (.getfield 31, 3) := by decide +kernel
theorem dX9_layWays_85 : decode cX9_layWays 85 = .ok (.bipush 64, 2) := by decide +kernel
theorem dX9_layWays_87 : decode cX9_layWays 87 = .ok (.iload_n 1, 1) := by decide +kernel
theorem dX9_layWays_88 : decode cX9_layWays 88 = .ok (.imul, 1) := by decide +kernel
theorem dX9_layWays_89 : decode cX9_layWays 89 = .ok (.bipush 64, 2) := by decide +kernel
theorem dX9_layWays_91 : decode cX9_layWays 91 = .ok (.iadd, 1) := by decide +kernel
theorem dX9_layWays_92 : decode cX9_layWays 92 = .ok (.iload 6, 2) := by decide +kernel
theorem dX9_layWays_94 : decode cX9_layWays 94 = .ok (.iadd, 1) := by decide +kernel
theorem dX9_layWays_95 : decode cX9_layWays 95 = .ok (.laload, 1) := by decide +kernel
theorem dX9_layWays_96 : decode cX9_layWays 96 = .ok (.ladd, 1) := by decide +kernel
theorem dX9_layWays_97 : decode cX9_layWays 97 = .ok (.lstore_n 3, 1) := by decide +kernel
theorem dX9_layWays_98 : decode cX9_layWays 98 = .ok (.iinc 5 1, 3) := by decide +kernel
theorem dX9_layWays_101 : decode cX9_layWays 101 = .ok (.goto (-48), 3) := by decide +kernel
theorem dX9_layWays_104 : decode cX9_layWays 104 = .ok (.aload_n 0, 1) := by decide +kernel
theorem dX9_layWays_105 : decode cX9_layWays 105 = .ok (.getfield 31, 3) := by decide +kernel
theorem dX9_layWays_108 : decode cX9_layWays 108 = .ok (.bipush 64, 2) := by decide +kernel
theorem dX9_layWays_110 : decode cX9_layWays 110 = .ok (.iload_n 1, 1) := by decide +kernel
theorem dX9_layWays_111 : decode cX9_layWays 111 = .ok (.imul, 1) := by decide +kernel
theorem dX9_layWays_112 : decode cX9_layWays 112 = .ok (.iload_n 2, 1) := by decide +kernel
theorem dX9_layWays_113 : decode cX9_layWays 113 = .ok (.iadd, 1) := by decide +kernel
theorem dX9_layWays_114 : decode cX9_layWays 114 = .ok (.lload_n 3, 1) := by decide +kernel
theorem dX9_layWays_115 : decode cX9_layWays 115 = .ok (.lastore, 1) := by decide +kernel
theorem dX9_layWays_116 : decode cX9_layWays 116 = .ok (.iinc 2 1, 3) := by decide +kernel
theorem dX9_layWays_119 : decode cX9_layWays 119 = .ok (.goto (-77), 3) := by decide +kernel
theorem dX9_layWays_122 : decode cX9_layWays 122 = .ok (.iinc 1 (-1), 3) := by decide +kernel
theorem dX9_layWays_125 : decode cX9_layWays 125 = .ok (.goto (-89), 3) := by decide +kernel
theorem dX9_layWays_128 : decode cX9_layWays 128 = .ok (.return_, 1) := by decide +kernel
set_option maxRecDepth 20000 in
theorem ggX9_heaps_X9_layWays : GoodIn wsX9_heaps wsX9_layWays := goodIn_r _ [6, 1, 7, 8, 9, 5, 10, 11, 12, 13, 14, 15, 16, 17, 18, 19, 20, 21, 22, 23, 24, 25, 26, 27, 28, 29, 30, 31, 32, 33, 34, 35, 36, 37, 38, 39, 40, 41, 42, 43, 44, 45, 46, 47] (by decide +kernel) (by decide +kernel)
set_option maxRecDepth 20000 in
theorem gX9_heaps_X9_layWays : GoodIn wsX9_heaps (wsV RX9 156 RX9 yX9_layWays wsX9_layWays) := goodIn_app (goodIn_of _ (by decide +kernel)) ggX9_heaps_X9_layWays
theorem dX9_heaps_0 : decode cX9_heaps 0 = .ok (.aload_n 0, 1) := by decide +kernel
theorem dX9_heaps_1 : decode cX9_heaps 1 = .ok (.invokevirtual 156, 3) := by decide +kernel
theorem dX9_heaps_4 : decode cX9_heaps 4 = .ok (.aload_n 0, 1) := by decide +kernel
theorem dX9_heaps_5 : decode cX9_heaps 5 = .ok (.getfield 31, 3) := by decide +kernel
theorem dX9_heaps_8 : decode cX9_heaps 8 = .ok (.iconst 0, 1) := by decide +kernel
theorem dX9_heaps_9 : decode cX9_heaps 9 = .ok (.laload, 1) := by decide +kernel
theorem dX9_heaps_10 : decode cX9_heaps 10 = .ok (.lreturn, 1) := by decide +kernel
set_option maxRecDepth 20000 in
theorem ggX9_withHeight_X9_layWays : GoodIn wsX9_withHeight wsX9_layWays := goodIn_r _ [8, 3, 9, 10, 11, 7, 12, 13, 14, 15, 16, 17, 18, 19, 20, 21, 1, 2, 22, 23, 24, 25, 26, 27, 28, 29, 30, 31, 32, 33, 34, 35, 36, 37, 38, 39, 40, 41, 42, 43, 44, 45, 46, 47] (by decide +kernel) (by decide +kernel)
set_option maxRecDepth 20000 in
theorem gX9_withHeight_X9_layWays : GoodIn wsX9_withHeight (wsV RX9 156 RX9 yX9_layWays wsX9_layWays) := goodIn_app (goodIn_of _ (by decide +kernel)) ggX9_withHeight_X9_layWays
theorem dX9_withHeight_0 : decode cX9_withHeight 0 = .ok (.aload_n 0, 1) := by decide +kernel
theorem dX9_withHeight_1 : decode cX9_withHeight 1 = .ok (.iload_n 1, 1) := by decide +kernel
theorem dX9_withHeight_2 : decode cX9_withHeight 2 = .ok (.putfield 38, 3) := by decide +kernel
theorem dX9_withHeight_5 : decode cX9_withHeight 5 = .ok (.aload_n 0, 1) := by decide +kernel
theorem dX9_withHeight_6 : decode cX9_withHeight 6 = .ok (.iload_n 2, 1) := by decide +kernel
theorem dX9_withHeight_7 : decode cX9_withHeight 7 = .ok (.putfield 149, 3) := by decide +kernel
theorem dX9_withHeight_10 : decode cX9_withHeight 10 = .ok (.aload_n 0, 1) := by decide +kernel
theorem dX9_withHeight_11 : decode cX9_withHeight 11 = .ok (.invokevirtual 156, 3) := by decide +kernel
theorem dX9_withHeight_14 : decode cX9_withHeight 14 = .ok (.aload_n 0, 1) := by decide +kernel
theorem dX9_withHeight_15 : decode cX9_withHeight 15 = .ok (.bipush (-9), 2) := by decide +kernel
theorem dX9_withHeight_17 : decode cX9_withHeight 17 = .ok (.putfield 38, 3) := by decide +kernel
theorem dX9_withHeight_20 : decode cX9_withHeight 20 = .ok (.aload_n 0, 1) := by decide +kernel
theorem dX9_withHeight_21 : decode cX9_withHeight 21 = .ok (.getfield 31, 3) := by decide +kernel
theorem dX9_withHeight_24 : decode cX9_withHeight 24 = .ok (.iconst 0, 1) := by decide +kernel
theorem dX9_withHeight_25 : decode cX9_withHeight 25 = .ok (.laload, 1) := by decide +kernel
theorem dX9_withHeight_26 : decode cX9_withHeight 26 = .ok (.lreturn, 1) := by decide +kernel
set_option maxRecDepth 20000 in
theorem ggX9_with_X9_isCell : GoodIn wsX9_with wsX9_isCell := goodIn_r _ [8, 9, 10, 11, 7, 12, 13, 14, 15, 16, 17, 36, 37, 38, 39, 40, 41, 42, 43, 44, 45, 46, 47, 48, 49, 50, 51, 52, 53, 54, 55, 56, 57, 58, 59, 60, 61] (by decide +kernel) (by decide +kernel)
set_option maxRecDepth 20000 in
theorem gX9_with_X9_isCell : GoodIn wsX9_with (wsV RX9 107 RX9 yX9_isCell wsX9_isCell) := goodIn_app (goodIn_of _ (by decide +kernel)) ggX9_with_X9_isCell
set_option maxRecDepth 20000 in
theorem ggX9_with_X9_in : GoodIn wsX9_with wsX9_in := goodIn_r _ [17] (by decide +kernel) (by decide +kernel)
set_option maxRecDepth 20000 in
theorem gX9_with_X9_in : GoodIn wsX9_with (va_wsS RX9 93 yX9_in wsX9_in) := goodIn_app (goodIn_of _ (by decide +kernel)) ggX9_with_X9_in
set_option maxRecDepth 20000 in
theorem ggX9_with_X9_withHeight : GoodIn wsX9_with wsX9_withHeight := goodIn_r _ [21, 22, 23, 24, 25, 26, 27, 7, 28, 9, 10, 11, 12, 13, 14, 29, 30, 31, 32, 33, 34, 35, 36, 37, 38, 39, 40, 41, 42, 43, 44, 45, 46, 47, 48, 49, 50, 51, 52, 53, 54, 55, 56, 57, 58, 59, 60, 61] (by decide +kernel) (by decide +kernel)
set_option maxRecDepth 20000 in
theorem gX9_with_X9_withHeight : GoodIn wsX9_with (wsV RX9 161 RX9 yX9_withHeight wsX9_withHeight) := goodIn_app (goodIn_of _ (by decide +kernel)) ggX9_with_X9_withHeight
theorem dX9_with_0 : decode cX9_with 0 = .ok (.aload_n 0, 1) := by decide +kernel
theorem dX9_with_1 : decode cX9_with 1 = .ok (.iload_n 1, 1) := by decide +kernel
theorem dX9_with_2 : decode cX9_with 2 = .ok (.invokevirtual 107, 3) := by decide +kernel
theorem dX9_with_5 : decode cX9_with 5 = .ok (.ifCond .ne 7, 3) := by decide +kernel
theorem dX9_with_8 : decode cX9_with 8 = .ok (.ldc2_w 159, 3) := by decide +kernel
theorem dX9_with_11 : decode cX9_with 11 = .ok (.lreturn, 1) := by decide +kernel
theorem dX9_with_12 : decode cX9_with 12 = .ok (.iload_n 2, 1) := by decide +kernel
theorem dX9_with_13 : decode cX9_with 13 = .ok (.i2l, 1) := by decide +kernel
theorem dX9_with_14 : decode cX9_with 14 = .ok (.lconst 0, 1) := by decide +kernel
theorem dX9_with_15 : decode cX9_with 15 = .ok (.ldc2_w 110, 3) := by decide +kernel
theorem dX9_with_18 : decode cX9_with 18 = .ok (.invokestatic 93, 3) := by decide +kernel
theorem dX9_with_21 : decode cX9_with 21 = .ok (.ifCond .eq 12, 3) := by decide +kernel
theorem dX9_with_24 : decode cX9_with 24 = .ok (.aload_n 0, 1) := by decide +kernel
theorem dX9_with_25 : decode cX9_with 25 = .ok (.iload_n 1, 1) := by decide +kernel
theorem dX9_with_26 : decode cX9_with 26 = .ok (.iload_n 2, 1) := by decide +kernel
theorem dX9_with_27 : decode cX9_with 27 = .ok (.invokevirtual 161, 3) := by decide +kernel
theorem dX9_with_30 : decode cX9_with 30 = .ok (.goto 6, 3) := by decide +kernel
theorem dX9_with_33 : decode cX9_with 33 = .ok (.ldc2_w 165, 3) := by decide +kernel
theorem dX9_with_36 : decode cX9_with 36 = .ok (.lreturn, 1) := by decide +kernel
set_option maxRecDepth 20000 in
theorem ggX9_span_X9_isCell : GoodIn wsX9_span wsX9_isCell := goodIn_r _ [5, 6, 7, 8, 4, 9, 10, 11, 12, 13, 14, 33, 34, 35, 36, 37, 38, 39, 40, 41, 42, 43, 44, 45, 46, 47, 48, 49, 50, 51, 52, 53, 54, 55, 56, 57, 58] (by decide +kernel) (by decide +kernel)
set_option maxRecDepth 20000 in
theorem gX9_span_X9_isCell : GoodIn wsX9_span (wsV RX9 107 RX9 yX9_isCell wsX9_isCell) := goodIn_app (goodIn_of _ (by decide +kernel)) ggX9_span_X9_isCell
set_option maxRecDepth 20000 in
theorem ggX9_span_X9_withHeight : GoodIn wsX9_span wsX9_withHeight := goodIn_r _ [18, 19, 20, 21, 22, 23, 24, 4, 25, 6, 7, 8, 9, 10, 11, 26, 27, 28, 29, 30, 31, 32, 33, 34, 35, 36, 37, 38, 39, 40, 41, 42, 43, 44, 45, 46, 47, 48, 49, 50, 51, 52, 53, 54, 55, 56, 57, 58] (by decide +kernel) (by decide +kernel)
set_option maxRecDepth 20000 in
theorem gX9_span_X9_withHeight : GoodIn wsX9_span (wsV RX9 161 RX9 yX9_withHeight wsX9_withHeight) := goodIn_app (goodIn_of _ (by decide +kernel)) ggX9_span_X9_withHeight
theorem dX9_span_0 : decode cX9_span 0 = .ok (.aload_n 0, 1) := by decide +kernel
theorem dX9_span_1 : decode cX9_span 1 = .ok (.iload_n 1, 1) := by decide +kernel
theorem dX9_span_2 : decode cX9_span 2 = .ok (.invokevirtual 107, 3) := by decide +kernel
theorem dX9_span_5 : decode cX9_span 5 = .ok (.ifCond .ne 5, 3) := by decide +kernel
theorem dX9_span_8 : decode cX9_span 8 = .ok (.iconst (-1), 1) := by decide +kernel
theorem dX9_span_9 : decode cX9_span 9 = .ok (.ireturn, 1) := by decide +kernel
theorem dX9_span_10 : decode cX9_span 10 = .ok (.iconst 0, 1) := by decide +kernel
theorem dX9_span_11 : decode cX9_span 11 = .ok (.istore_n 3, 1) := by decide +kernel
theorem dX9_span_12 : decode cX9_span 12 = .ok (.iload_n 3, 1) := by decide +kernel
theorem dX9_span_13 : decode cX9_span 13 = .ok (.iconst 5, 1) := by decide +kernel
theorem dX9_span_14 : decode cX9_span 14 = .ok (.if_icmp .ge 37, 3) := by decide +kernel
theorem dX9_span_17 : decode cX9_span 17 = .ok (.iload_n 2, 1) := by decide +kernel
theorem dX9_span_18 : decode cX9_span 18 = .ok (.ifCond .eq 9, 3) := by decide +kernel
theorem dX9_span_21 : decode cX9_span 21 = .ok (.iconst 4, 1) := by decide +kernel
theorem dX9_span_22 : decode cX9_span 22 = .ok (.iload_n 3, 1) := by decide +kernel
theorem dX9_span_23 : decode cX9_span 23 = .ok (.isub, 1) := by decide +kernel
theorem dX9_span_24 : decode cX9_span 24 = .ok (.goto 4, 3) := by decide +kernel
theorem dX9_span_27 : decode cX9_span 27 = .ok (.iload_n 3, 1) := by decide +kernel
theorem dX9_span_28 : decode cX9_span 28 = .ok (.istore 4, 2) := by decide +kernel
theorem dX9_span_30 : decode cX9_span 30 = .ok (.aload_n 0, 1) := by decide +kernel
theorem dX9_span_31 : decode cX9_span 31 = .ok (.iload_n 1, 1) := by decide +kernel
theorem dX9_span_32 : decode cX9_span 32 = .ok (.iload 4, 2) := by decide +kernel
theorem dX9_span_34 : decode cX9_span 34 = .ok (.invokevirtual 161, 3) := by decide +kernel
theorem dX9_span_37 : decode cX9_span 37 = .ok (.lconst 0, 1) := by decide +kernel
theorem dX9_span_38 : decode cX9_span 38 = .ok (.lcmp, 1) := by decide +kernel
theorem dX9_span_39 : decode cX9_span 39 = .ok (.ifCond .le 6, 3) := by decide +kernel
theorem dX9_span_42 : decode cX9_span 42 = .ok (.iload 4, 2) := by decide +kernel
theorem dX9_span_44 : decode cX9_span 44 = .ok (.ireturn, 1) := by decide +kernel
theorem dX9_span_45 : decode cX9_span 45 = .ok (.iinc 3 1, 3) := by decide +kernel
theorem dX9_span_48 : decode cX9_span 48 = .ok (.goto (-36), 3) := by decide +kernel
theorem dX9_span_51 : decode cX9_span 51 = .ok (.bipush (-9), 2) := by decide +kernel
theorem dX9_span_53 : decode cX9_span 53 = .ok (.ireturn, 1) := by decide +kernel
set_option maxRecDepth 20000 in
theorem ggX9_count_X9_cells : GoodIn wsX9_count wsX9_cells := goodIn_r _ [6, 7, 8, 18, 19, 20, 21, 22, 23, 24, 25, 26, 27, 28, 29, 30, 31, 32, 33, 34, 35, 36, 37, 38, 39, 40, 41, 42, 43] (by decide +kernel) (by decide +kernel)
set_option maxRecDepth 20000 in
theorem gX9_count_X9_cells : GoodIn wsX9_count (wsV RX9 97 RX9 yX9_cells wsX9_cells) := goodIn_app (goodIn_of _ (by decide +kernel)) ggX9_count_X9_cells
set_option maxRecDepth 20000 in
theorem ggX9_count_X9_then : GoodIn wsX9_count wsX9_then := goodIn_r _ [12, 7, 13, 14, 15, 16, 17, 8, 18, 19, 20, 21, 22, 23, 24, 25, 26, 27, 28, 29, 30, 31, 32, 33, 34, 35, 36, 37, 38, 39, 40, 41, 42, 43] (by decide +kernel) (by decide +kernel)
set_option maxRecDepth 20000 in
theorem gX9_count_X9_then : GoodIn wsX9_count (wsV RX9 152 RX9 yX9_then wsX9_then) := goodIn_app (goodIn_of _ (by decide +kernel)) ggX9_count_X9_then
theorem dX9_count_0 : decode cX9_count 0 = .ok (.iconst 0, 1) := by decide +kernel
theorem dX9_count_1 : decode cX9_count 1 = .ok (.istore_n 2, 1) := by decide +kernel
theorem dX9_count_2 : decode cX9_count 2 = .ok (.iload_n 2, 1) := by decide +kernel
theorem dX9_count_3 : decode cX9_count 3 = .ok (.bipush 64, 2) := by decide +kernel
theorem dX9_count_5 : decode cX9_count 5 = .ok (.if_icmp .ge 24, 3) := by decide +kernel
theorem dX9_count_8 : decode cX9_count 8 = .ok (.aload_n 0, 1) := by decide +kernel
theorem dX9_count_9 : decode cX9_count 9 = .ok (.getfield 35, 3) := by decide +kernel
theorem dX9_count_12 : decode cX9_count 12 = .ok (.bipush 64, 2) := by decide +kernel
theorem dX9_count_14 : decode cX9_count 14 = .ok (.aload_n 0, 1) := by decide +kernel
theorem dX9_count_15 : decode cX9_count 15 = .ok (.invokevirtual 97, 3) := by decide +kernel
theorem dX9_count_18 : decode cX9_count 18 = .ok (.imul, 1) := by decide +kernel
theorem dX9_count_19 : decode cX9_count 19 = .ok (.iload_n 2, 1) := by decide +kernel
theorem dX9_count_20 : decode cX9_count 20 = .ok (.iadd, 1) := by decide +kernel
theorem dX9_count_21 : decode cX9_count 21 = .ok (.iconst 0, 1) := by decide +kernel
theorem dX9_count_22 : decode cX9_count 22 = .ok (.iastore, 1) := by decide +kernel
theorem dX9_count_23 : decode cX9_count 23 = .ok (.iinc 2 1, 3) := by decide +kernel
theorem dX9_count_26 : decode cX9_count 26 = .ok (.goto (-24), 3) := by decide +kernel
theorem dX9_count_29 : decode cX9_count 29 = .ok (.aload_n 0, 1) := by decide +kernel
theorem dX9_count_30 : decode cX9_count 30 = .ok (.invokevirtual 97, 3) := by decide +kernel
theorem dX9_count_33 : decode cX9_count 33 = .ok (.iconst 1, 1) := by decide +kernel
theorem dX9_count_34 : decode cX9_count 34 = .ok (.isub, 1) := by decide +kernel
theorem dX9_count_35 : decode cX9_count 35 = .ok (.istore_n 2, 1) := by decide +kernel
theorem dX9_count_36 : decode cX9_count 36 = .ok (.iload_n 2, 1) := by decide +kernel
theorem dX9_count_37 : decode cX9_count 37 = .ok (.ifCond .lt 145, 3) := by decide +kernel
theorem dX9_count_40 : decode cX9_count 40 = .ok (.iconst 0, 1) := by decide +kernel
theorem dX9_count_41 : decode cX9_count 41 = .ok (.istore_n 3, 1) := by decide +kernel
theorem dX9_count_42 : decode cX9_count 42 = .ok (.iload_n 3, 1) := by decide +kernel
theorem dX9_count_43 : decode cX9_count 43 = .ok (.bipush 64, 2) := by decide +kernel
theorem dX9_count_45 : decode cX9_count 45 = .ok (.if_icmp .ge 131, 3) := by decide +kernel
theorem dX9_count_48 : decode cX9_count 48 = .ok (.bipush (-9), 2) := by decide +kernel
theorem dX9_count_50 : decode cX9_count 50 = .ok (.istore 4, 2) := by decide +kernel
theorem dX9_count_52 : decode cX9_count 52 = .ok (.iconst 0, 1) := by decide +kernel
theorem dX9_count_53 : decode cX9_count 53 = .ok (.istore 5, 2) := by decide +kernel
theorem dX9_count_55 : decode cX9_count 55 = .ok (.iload 5, 2) := by decide +kernel
theorem dX9_count_57 : decode cX9_count 57 = .ok (.iconst 5, 1) := by decide +kernel
theorem dX9_count_58 : decode cX9_count 58 = .ok (.if_icmp .ge 99, 3) := by decide +kernel
theorem dX9_count_61 : decode cX9_count 61 = .ok (.aload_n 0, 1) := by decide +kernel
theorem dX9_count_62 : decode cX9_count 62 = .ok (.iload_n 2, 1) := by decide +kernel
theorem dX9_count_63 : decode cX9_count 63 = .ok (.iload_n 3, 1) := by decide +kernel
theorem dX9_count_64 : decode cX9_count 64 = .ok (.iload 5, 2) := by decide +kernel
theorem dX9_count_66 : decode cX9_count 66 = .ok (.invokevirtual 152, 3) := by decide +kernel
theorem dX9_count_69 : decode cX9_count 69 = .ok (.istore 6, 2) := by decide +kernel
theorem dX9_count_71 : decode cX9_count 71 = .ok (.iload 6, 2) := by decide +kernel
theorem dX9_count_73 : decode cX9_count 73 = .ok (.bipush (-9), 2) := by decide +kernel
theorem dX9_count_75 : decode cX9_count 75 = .ok (.if_icmp .ne 8, 3) := by decide +kernel
theorem dX9_count_78 : decode cX9_count 78 = .ok (.bipush (-9), 2) := by decide +kernel
theorem dX9_count_80 : decode cX9_count 80 = .ok (.goto 18, 3) := by decide +kernel
theorem dX9_count_83 : decode cX9_count 83 = .ok (.aload_n 0, 1) := by decide +kernel
theorem dX9_count_84 : decode cX9_count 84 = .ok (.getfield 35, 3) := by decide +kernel
theorem dX9_count_87 : decode cX9_count 87 = .ok (.bipush 64, 2) := by decide +kernel
theorem dX9_count_89 : decode cX9_count 89 = .ok (.iload_n 2, 1) := by decide +kernel
theorem dX9_count_90 : decode cX9_count 90 = .ok (.imul, 1) := by decide +kernel
theorem dX9_count_91 : decode cX9_count 91 = .ok (.bipush 64, 2) := by decide +kernel
theorem dX9_count_93 : decode cX9_count 93 = .ok (.iadd, 1) := by decide +kernel
theorem dX9_count_94 : decode cX9_count 94 = .ok (.iload 6, 2) := by decide +kernel
theorem dX9_count_96 : decode cX9_count 96 = .ok (.iadd, 1) := by decide +kernel
theorem dX9_count_97 : decode cX9_count 97 = .ok (.iaload, 1) := by decide +kernel
theorem dX9_count_98 : decode cX9_count 98 = .ok (.istore 7, 2) := by decide +kernel
theorem dX9_count_100 : decode cX9_count 100 = .ok (.iload 7, 2) := by decide +kernel
theorem dX9_count_102 : decode cX9_count 102 = .ok (.iload 5, 2) := by decide +kernel
theorem dX9_count_104 : decode cX9_count 104 = .ok (.iadd, 1) := by decide +kernel
theorem dX9_count_105 : decode cX9_count 105 = .ok (.istore 8, 2) := by decide +kernel
theorem dX9_count_107 : decode cX9_count 107 = .ok (.iload 7, 2) := by decide +kernel
theorem dX9_count_109 : decode cX9_count 109 = .ok (.bipush (-9), 2) := by decide +kernel
theorem dX9_count_111 : decode cX9_count 111 = .ok (.if_icmp .eq 36, 3) := by decide +kernel
theorem dX9_count_114 : decode cX9_count 114 = .ok (.iload 4, 2) := by decide +kernel
theorem dX9_count_116 : decode cX9_count 116 = .ok (.bipush (-9), 2) := by decide +kernel
theorem dX9_count_118 : decode cX9_count 118 = .ok (.if_icmp .eq 24, 3) := by decide +kernel
theorem dX9_count_121 : decode cX9_count 121 = .ok (.iload_n 1, 1) := by decide +kernel
theorem dX9_count_122 : decode cX9_count 122 = .ok (.ifCond .eq 13, 3) := by decide +kernel
theorem dX9_count_125 : decode cX9_count 125 = .ok (.iload 8, 2) := by decide +kernel
theorem dX9_count_127 : decode cX9_count 127 = .ok (.iload 4, 2) := by decide +kernel
theorem dX9_count_129 : decode cX9_count 129 = .ok (.if_icmp .le 18, 3) := by decide +kernel
theorem dX9_count_132 : decode cX9_count 132 = .ok (.goto 10, 3) := by decide +kernel
theorem dX9_count_135 : decode cX9_count 135 = .ok (.iload 8, 2) := by decide +kernel
theorem dX9_count_137 : decode cX9_count 137 = .ok (.iload 4, 2) := by decide +kernel
theorem dX9_count_139 : decode cX9_count 139 = .ok (.if_icmp .ge 8, 3) := by decide +kernel
theorem dX9_count_142 : decode cX9_count 142 = .ok (.iload 8, 2) := by decide +kernel
theorem dX9_count_144 : decode cX9_count 144 = .ok (.goto 5, 3) := by decide +kernel
theorem dX9_count_147 : decode cX9_count 147 = .ok (.iload 4, 2) := by decide +kernel
theorem dX9_count_149 : decode cX9_count 149 = .ok (.istore 4, 2) := by decide +kernel
theorem dX9_count_151 : decode cX9_count 151 = .ok (.iinc 5 1, 3) := by decide +kernel
theorem dX9_count_154 : decode cX9_count 154 = .ok (.goto (-99), 3) := by decide +kernel
theorem dX9_count_157 : decode cX9_count 157 = .ok (.aload_n 0, 1) := by decide +kernel
theorem dX9_count_158 : decode cX9_count 158 = .ok (.getfield 35, 3) := by decide +kernel
theorem dX9_count_161 : decode cX9_count 161 = .ok (.bipush 64, 2) := by decide +kernel
theorem dX9_count_163 : decode cX9_count 163 = .ok (.iload_n 2, 1) := by decide +kernel
theorem dX9_count_164 : decode cX9_count 164 = .ok (.imul, 1) := by decide +kernel
theorem dX9_count_165 : decode cX9_count 165 = .ok (.iload_n 3, 1) := by decide +kernel
theorem dX9_count_166 : decode cX9_count 166 = .ok (.iadd, 1) := by decide +kernel
theorem dX9_count_167 : decode cX9_count 167 = .ok (.iload 4, 2) := by decide +kernel
theorem dX9_count_169 : decode cX9_count 169 = .ok (.iastore, 1) := by decide +kernel
theorem dX9_count_170 : decode cX9_count 170 = .ok (.iinc 3 1, 3) := by decide +kernel
theorem dX9_count_173 : decode cX9_count 173 = .ok (.goto (-131), 3) := by decide +kernel
theorem dX9_count_176 : decode cX9_count 176 = .ok (.iinc 2 (-1), 3) := by decide +kernel
theorem dX9_count_179 : decode cX9_count 179 = .ok (.goto (-143), 3) := by decide +kernel
theorem dX9_count_182 : decode cX9_count 182 = .ok (.aload_n 0, 1) := by decide +kernel
theorem dX9_count_183 : decode cX9_count 183 = .ok (.getfield 35, 3) := by decide +kernel
theorem dX9_count_186 : decode cX9_count 186 = .ok (.iconst 0, 1) := by decide +kernel
theorem dX9_count_187 : decode cX9_count 187 = .ok (.iaload, 1) := by decide +kernel
theorem dX9_count_188 : decode cX9_count 188 = .ok (.ireturn, 1) := by decide +kernel
set_option maxRecDepth 20000 in
theorem ggX9_lay_X9_isSlot : GoodIn wsX9_lay wsX9_isSlot := goodIn_r _ [6, 7, 8, 9, 5, 10] (by decide +kernel) (by decide +kernel)
set_option maxRecDepth 20000 in
theorem gX9_lay_X9_isSlot : GoodIn wsX9_lay (va_wsS RX9 103 yX9_isSlot wsX9_isSlot) := goodIn_app (goodIn_of _ (by decide +kernel)) ggX9_lay_X9_isSlot
set_option maxRecDepth 20000 in
theorem ggX9_lay_X9_layWays : GoodIn wsX9_lay wsX9_layWays := goodIn_r _ [14, 1, 15, 16, 17, 5, 18, 19, 20, 21, 22, 23, 24, 25, 26, 27, 28, 29, 34, 35, 36, 37, 38, 39, 40, 41, 42, 43, 44, 45, 46, 47, 48, 49, 50, 51, 52, 53, 54, 55, 56, 57, 58, 59] (by decide +kernel) (by decide +kernel)
set_option maxRecDepth 20000 in
theorem gX9_lay_X9_layWays : GoodIn wsX9_lay (wsV RX9 156 RX9 yX9_layWays wsX9_layWays) := goodIn_app (goodIn_of _ (by decide +kernel)) ggX9_lay_X9_layWays
set_option maxRecDepth 20000 in
theorem ggX9_lay_X9_cells : GoodIn wsX9_lay wsX9_cells := goodIn_r _ [18, 19, 20, 34, 35, 36, 37, 38, 39, 40, 41, 42, 43, 44, 45, 46, 47, 48, 49, 50, 51, 52, 53, 54, 55, 56, 57, 58, 59] (by decide +kernel) (by decide +kernel)
set_option maxRecDepth 20000 in
theorem gX9_lay_X9_cells : GoodIn wsX9_lay (wsV RX9 97 RX9 yX9_cells wsX9_cells) := goodIn_app (goodIn_of _ (by decide +kernel)) ggX9_lay_X9_cells
set_option maxRecDepth 20000 in
theorem ggX9_lay_X9_then : GoodIn wsX9_lay wsX9_then := goodIn_r _ [24, 19, 25, 26, 27, 28, 29, 20, 34, 35, 36, 37, 38, 39, 40, 41, 42, 43, 44, 45, 46, 47, 48, 49, 50, 51, 52, 53, 54, 55, 56, 57, 58, 59] (by decide +kernel) (by decide +kernel)
set_option maxRecDepth 20000 in
theorem gX9_lay_X9_then : GoodIn wsX9_lay (wsV RX9 152 RX9 yX9_then wsX9_then) := goodIn_app (goodIn_of _ (by decide +kernel)) ggX9_lay_X9_then
set_option maxRecDepth 20000 in
theorem ggX9_lay_X9_cubesOf : GoodIn wsX9_lay wsX9_cubesOf := goodIn_r _ [33, 2, 15, 16, 17, 5, 18, 19, 20, 34, 35, 36, 37, 38, 39, 40, 41, 42, 43, 44, 45, 46, 47, 48, 49, 50, 51, 52, 53, 54, 55, 56, 57, 58, 59] (by decide +kernel) (by decide +kernel)
set_option maxRecDepth 20000 in
theorem gX9_lay_X9_cubesOf : GoodIn wsX9_lay (wsV RX9 112 RX9 yX9_cubesOf wsX9_cubesOf) := goodIn_app (goodIn_of _ (by decide +kernel)) ggX9_lay_X9_cubesOf
theorem dX9_lay_0 : decode cX9_lay 0 = .ok (.iload_n 1, 1) := by decide +kernel
theorem dX9_lay_1 : decode cX9_lay 1 = .ok (.invokestatic 103, 3) := by decide +kernel
theorem dX9_lay_4 : decode cX9_lay 4 = .ok (.ifCond .ne 5, 3) := by decide +kernel
theorem dX9_lay_7 : decode cX9_lay 7 = .ok (.iconst (-1), 1) := by decide +kernel
theorem dX9_lay_8 : decode cX9_lay 8 = .ok (.ireturn, 1) := by decide +kernel
theorem dX9_lay_9 : decode cX9_lay 9 = .ok (.aload_n 0, 1) := by decide +kernel
theorem dX9_lay_10 : decode cX9_lay 10 = .ok (.invokevirtual 156, 3) := by decide +kernel
theorem dX9_lay_13 : decode cX9_lay 13 = .ok (.lload_n 2, 1) := by decide +kernel
theorem dX9_lay_14 : decode cX9_lay 14 = .ok (.lconst 0, 1) := by decide +kernel
theorem dX9_lay_15 : decode cX9_lay 15 = .ok (.lcmp, 1) := by decide +kernel
theorem dX9_lay_16 : decode cX9_lay 16 = .ok (.ifCond .lt 14, 3) := by decide +kernel
theorem dX9_lay_19 : decode cX9_lay 19 = .ok (.lload_n 2, 1) := by decide +kernel
theorem dX9_lay_20 : decode cX9_lay 20 = .ok (.aload_n 0, 1) := by decide +kernel
theorem dX9_lay_21 : decode cX9_lay 21 = .ok (.getfield 31, 3) := by decide +kernel
theorem dX9_lay_24 : decode cX9_lay 24 = .ok (.iconst 0, 1) := by decide +kernel
theorem dX9_lay_25 : decode cX9_lay 25 = .ok (.laload, 1) := by decide +kernel
theorem dX9_lay_26 : decode cX9_lay 26 = .ok (.lcmp, 1) := by decide +kernel
theorem dX9_lay_27 : decode cX9_lay 27 = .ok (.ifCond .lt 6, 3) := by decide +kernel
theorem dX9_lay_30 : decode cX9_lay 30 = .ok (.bipush (-2), 2) := by decide +kernel
theorem dX9_lay_32 : decode cX9_lay 32 = .ok (.ireturn, 1) := by decide +kernel
theorem dX9_lay_33 : decode cX9_lay 33 = .ok (.lload_n 2, 1) := by decide +kernel
theorem dX9_lay_34 : decode cX9_lay 34 = .ok (.lstore 4, 2) := by decide +kernel
theorem dX9_lay_36 : decode cX9_lay 36 = .ok (.iconst 0, 1) := by decide +kernel
theorem dX9_lay_37 : decode cX9_lay 37 = .ok (.istore 6, 2) := by decide +kernel
theorem dX9_lay_39 : decode cX9_lay 39 = .ok (.iconst 0, 1) := by decide +kernel
theorem dX9_lay_40 : decode cX9_lay 40 = .ok (.istore 7, 2) := by decide +kernel
theorem dX9_lay_42 : decode cX9_lay 42 = .ok (.iload 7, 2) := by decide +kernel
theorem dX9_lay_44 : decode cX9_lay 44 = .ok (.aload_n 0, 1) := by decide +kernel
theorem dX9_lay_45 : decode cX9_lay 45 = .ok (.invokevirtual 97, 3) := by decide +kernel
theorem dX9_lay_48 : decode cX9_lay 48 = .ok (.if_icmp .ge 121, 3) := by decide +kernel
theorem dX9_lay_51 : decode cX9_lay 51 = .ok (.iconst 0, 1) := by decide +kernel
theorem dX9_lay_52 : decode cX9_lay 52 = .ok (.istore 8, 2) := by decide +kernel
theorem dX9_lay_54 : decode cX9_lay 54 = .ok (.aload_n 0, 1) := by decide +kernel
theorem dX9_lay_55 : decode cX9_lay 55 = .ok (.iload 7, 2) := by decide +kernel
theorem dX9_lay_57 : decode cX9_lay 57 = .ok (.iload 6, 2) := by decide +kernel
theorem dX9_lay_59 : decode cX9_lay 59 = .ok (.iload 8, 2) := by decide +kernel
theorem dX9_lay_61 : decode cX9_lay 61 = .ok (.invokevirtual 152, 3) := by decide +kernel
theorem dX9_lay_64 : decode cX9_lay 64 = .ok (.istore 9, 2) := by decide +kernel
theorem dX9_lay_66 : decode cX9_lay 66 = .ok (.iload 9, 2) := by decide +kernel
theorem dX9_lay_68 : decode cX9_lay 68 = .ok (.bipush (-9), 2) := by decide +kernel
theorem dX9_lay_70 : decode cX9_lay 70 = .ok (.if_icmp .eq 25, 3) := by decide +kernel
theorem dX9_lay_73 : decode cX9_lay 73 = .ok (.lload 4, 2) := by decide +kernel
theorem dX9_lay_75 : decode cX9_lay 75 = .ok (.aload_n 0, 1) := by decide +kernel
theorem dX9_lay_76 : decode cX9_lay 76 = .ok (.getfield 31, 3) := by decide +kernel
theorem dX9_lay_79 : decode cX9_lay 79 = .ok (.bipush 64, 2) := by decide +kernel
theorem dX9_lay_81 : decode cX9_lay 81 = .ok (.iload 7, 2) := by decide +kernel
theorem dX9_lay_83 : decode cX9_lay 83 = .ok (.imul, 1) := by decide +kernel
theorem dX9_lay_84 : decode cX9_lay 84 = .ok (.bipush 64, 2) := by decide +kernel
theorem dX9_lay_86 : decode cX9_lay 86 = .ok (.iadd, 1) := by decide +kernel
theorem dX9_lay_87 : decode cX9_lay 87 = .ok (.iload 9, 2) := by decide +kernel
theorem dX9_lay_89 : decode cX9_lay 89 = .ok (.iadd, 1) := by decide +kernel
theorem dX9_lay_90 : decode cX9_lay 90 = .ok (.laload, 1) := by decide +kernel
theorem dX9_lay_91 : decode cX9_lay 91 = .ok (.lcmp, 1) := by decide +kernel
theorem dX9_lay_92 : decode cX9_lay 92 = .ok (.ifCond .lt 53, 3) := by decide +kernel
theorem dX9_lay_95 : decode cX9_lay 95 = .ok (.lload 4, 2) := by decide +kernel
theorem dX9_lay_97 : decode cX9_lay 97 = .ok (.iload 9, 2) := by decide +kernel
theorem dX9_lay_99 : decode cX9_lay 99 = .ok (.bipush (-9), 2) := by decide +kernel
theorem dX9_lay_101 : decode cX9_lay 101 = .ok (.if_icmp .ne 7, 3) := by decide +kernel
theorem dX9_lay_104 : decode cX9_lay 104 = .ok (.lconst 0, 1) := by decide +kernel
theorem dX9_lay_105 : decode cX9_lay 105 = .ok (.goto 19, 3) := by decide +kernel
theorem dX9_lay_108 : decode cX9_lay 108 = .ok (.aload_n 0, 1) := by decide +kernel
theorem dX9_lay_109 : decode cX9_lay 109 = .ok (.getfield 31, 3) := by decide +kernel
theorem dX9_lay_112 : decode cX9_lay 112 = .ok (.bipush 64, 2) := by decide +kernel
theorem dX9_lay_114 : decode cX9_lay 114 = .ok (.iload 7, 2) := by decide +kernel
theorem dX9_lay_116 : decode cX9_lay 116 = .ok (.imul, 1) := by decide +kernel
theorem dX9_lay_117 : decode cX9_lay 117 = .ok (.bipush 64, 2) := by decide +kernel
theorem dX9_lay_119 : decode cX9_lay 119 = .ok (.iadd, 1) := by decide +kernel
theorem dX9_lay_120 : decode cX9_lay 120 = .ok (.iload 9, 2) := by decide +kernel
theorem dX9_lay_122 : decode cX9_lay 122 = .ok (.iadd, 1) := by decide +kernel
theorem dX9_lay_123 : decode cX9_lay 123 = .ok (.laload, 1) := by decide +kernel
theorem dX9_lay_124 : decode cX9_lay 124 = .ok (.lsub, 1) := by decide +kernel
theorem dX9_lay_125 : decode cX9_lay 125 = .ok (.lstore 4, 2) := by decide +kernel
theorem dX9_lay_127 : decode cX9_lay 127 = .ok (.iinc 8 1, 3) := by decide +kernel
theorem dX9_lay_130 : decode cX9_lay 130 = .ok (.aload_n 0, 1) := by decide +kernel
theorem dX9_lay_131 : decode cX9_lay 131 = .ok (.iload 7, 2) := by decide +kernel
theorem dX9_lay_133 : decode cX9_lay 133 = .ok (.iload 6, 2) := by decide +kernel
theorem dX9_lay_135 : decode cX9_lay 135 = .ok (.iload 8, 2) := by decide +kernel
theorem dX9_lay_137 : decode cX9_lay 137 = .ok (.invokevirtual 152, 3) := by decide +kernel
theorem dX9_lay_140 : decode cX9_lay 140 = .ok (.istore 9, 2) := by decide +kernel
theorem dX9_lay_142 : decode cX9_lay 142 = .ok (.goto (-76), 3) := by decide +kernel
theorem dX9_lay_145 : decode cX9_lay 145 = .ok (.aload_n 0, 1) := by decide +kernel
theorem dX9_lay_146 : decode cX9_lay 146 = .ok (.getfield 7, 3) := by decide +kernel
theorem dX9_lay_149 : decode cX9_lay 149 = .ok (.bipush 25, 2) := by decide +kernel
theorem dX9_lay_151 : decode cX9_lay 151 = .ok (.iload_n 1, 1) := by decide +kernel
theorem dX9_lay_152 : decode cX9_lay 152 = .ok (.imul, 1) := by decide +kernel
theorem dX9_lay_153 : decode cX9_lay 153 = .ok (.iload 7, 2) := by decide +kernel
theorem dX9_lay_155 : decode cX9_lay 155 = .ok (.iadd, 1) := by decide +kernel
theorem dX9_lay_156 : decode cX9_lay 156 = .ok (.iload 8, 2) := by decide +kernel
theorem dX9_lay_158 : decode cX9_lay 158 = .ok (.iastore, 1) := by decide +kernel
theorem dX9_lay_159 : decode cX9_lay 159 = .ok (.iload 9, 2) := by decide +kernel
theorem dX9_lay_161 : decode cX9_lay 161 = .ok (.istore 6, 2) := by decide +kernel
theorem dX9_lay_163 : decode cX9_lay 163 = .ok (.iinc 7 1, 3) := by decide +kernel
theorem dX9_lay_166 : decode cX9_lay 166 = .ok (.goto (-124), 3) := by decide +kernel
theorem dX9_lay_169 : decode cX9_lay 169 = .ok (.aload_n 0, 1) := by decide +kernel
theorem dX9_lay_170 : decode cX9_lay 170 = .ok (.iload_n 1, 1) := by decide +kernel
theorem dX9_lay_171 : decode cX9_lay 171 = .ok (.invokevirtual 112, 3) := by decide +kernel
theorem dX9_lay_174 : decode cX9_lay 174 = .ok (.ireturn, 1) := by decide +kernel
set_option maxRecDepth 20000 in
theorem ggX9_place_X9_isSlot : GoodIn wsX9_place wsX9_isSlot := goodIn_r _ [8, 9, 10, 11, 7, 12] (by decide +kernel) (by decide +kernel)
set_option maxRecDepth 20000 in
theorem gX9_place_X9_isSlot : GoodIn wsX9_place (va_wsS RX9 103 yX9_isSlot wsX9_isSlot) := goodIn_app (goodIn_of _ (by decide +kernel)) ggX9_place_X9_isSlot
set_option maxRecDepth 20000 in
theorem ggX9_place_X9_isFit : GoodIn wsX9_place wsX9_isFit := goodIn_r _ [16, 17, 18, 19, 20, 21, 3, 22, 23, 24, 7, 25, 26, 27, 28, 29, 30, 31, 32, 33, 34, 35, 36, 37, 48, 49, 50, 51, 52, 53, 54, 55, 56, 57, 58, 59, 60, 61, 62, 63, 64, 65, 66, 67, 68, 69, 70, 71, 72, 73] (by decide +kernel) (by decide +kernel)
set_option maxRecDepth 20000 in
theorem gX9_place_X9_isFit : GoodIn wsX9_place (wsV RX9 146 RX9 yX9_isFit wsX9_isFit) := goodIn_app (goodIn_of _ (by decide +kernel)) ggX9_place_X9_isFit
set_option maxRecDepth 20000 in
theorem ggX9_place_X9_layWays : GoodIn wsX9_place wsX9_layWays := goodIn_r _ [41, 4, 34, 35, 36, 7, 37, 17, 19, 42, 43, 44, 45, 18, 20, 21, 46, 47, 48, 49, 50, 51, 52, 53, 54, 55, 56, 57, 58, 59, 60, 61, 62, 63, 64, 65, 66, 67, 68, 69, 70, 71, 72, 73] (by decide +kernel) (by decide +kernel)
set_option maxRecDepth 20000 in
theorem gX9_place_X9_layWays : GoodIn wsX9_place (wsV RX9 156 RX9 yX9_layWays wsX9_layWays) := goodIn_app (goodIn_of _ (by decide +kernel)) ggX9_place_X9_layWays
set_option maxRecDepth 20000 in
theorem ggX9_place_X9_cells : GoodIn wsX9_place wsX9_cells := goodIn_r _ [37, 17, 19, 48, 49, 50, 51, 52, 53, 54, 55, 56, 57, 58, 59, 60, 61, 62, 63, 64, 65, 66, 67, 68, 69, 70, 71, 72, 73] (by decide +kernel) (by decide +kernel)
set_option maxRecDepth 20000 in
theorem gX9_place_X9_cells : GoodIn wsX9_place (wsV RX9 97 RX9 yX9_cells wsX9_cells) := goodIn_app (goodIn_of _ (by decide +kernel)) ggX9_place_X9_cells
set_option maxRecDepth 20000 in
theorem ggX9_place_X9_then : GoodIn wsX9_place wsX9_then := goodIn_r _ [45, 17, 18, 20, 21, 46, 47, 19, 48, 49, 50, 51, 52, 53, 54, 55, 56, 57, 58, 59, 60, 61, 62, 63, 64, 65, 66, 67, 68, 69, 70, 71, 72, 73] (by decide +kernel) (by decide +kernel)
set_option maxRecDepth 20000 in
theorem gX9_place_X9_then : GoodIn wsX9_place (wsV RX9 152 RX9 yX9_then wsX9_then) := goodIn_app (goodIn_of _ (by decide +kernel)) ggX9_place_X9_then
theorem dX9_place_0 : decode cX9_place 0 = .ok (.iload_n 1, 1) := by decide +kernel
theorem dX9_place_1 : decode cX9_place 1 = .ok (.invokestatic 103, 3) := by decide +kernel
theorem dX9_place_4 : decode cX9_place 4 = .ok (.ifCond .ne 7, 3) := by decide +kernel
theorem dX9_place_7 : decode cX9_place 7 = .ok (.ldc2_w 159, 3) := by decide +kernel
theorem dX9_place_10 : decode cX9_place 10 = .ok (.lreturn, 1) := by decide +kernel
theorem dX9_place_11 : decode cX9_place 11 = .ok (.aload_n 0, 1) := by decide +kernel
theorem dX9_place_12 : decode cX9_place 12 = .ok (.iload_n 1, 1) := by decide +kernel
theorem dX9_place_13 : decode cX9_place 13 = .ok (.invokevirtual 146, 3) := by decide +kernel
theorem dX9_place_16 : decode cX9_place 16 = .ok (.ifCond .ne 7, 3) := by decide +kernel
theorem dX9_place_19 : decode cX9_place 19 = .ok (.ldc2_w 167, 3) := by decide +kernel
theorem dX9_place_22 : decode cX9_place 22 = .ok (.lreturn, 1) := by decide +kernel
theorem dX9_place_23 : decode cX9_place 23 = .ok (.aload_n 0, 1) := by decide +kernel
theorem dX9_place_24 : decode cX9_place 24 = .ok (.invokevirtual 156, 3) := by decide +kernel
theorem dX9_place_27 : decode cX9_place 27 = .ok (.lconst 0, 1) := by decide +kernel
theorem dX9_place_28 : decode cX9_place 28 = .ok (.lstore_n 2, 1) := by decide +kernel
theorem dX9_place_29 : decode cX9_place 29 = .ok (.iconst 0, 1) := by decide +kernel
theorem dX9_place_30 : decode cX9_place 30 = .ok (.istore 4, 2) := by decide +kernel
theorem dX9_place_32 : decode cX9_place 32 = .ok (.iconst 0, 1) := by decide +kernel
theorem dX9_place_33 : decode cX9_place 33 = .ok (.istore 5, 2) := by decide +kernel
theorem dX9_place_35 : decode cX9_place 35 = .ok (.iload 5, 2) := by decide +kernel
