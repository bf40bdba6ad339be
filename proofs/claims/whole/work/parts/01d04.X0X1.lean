theorem dX1_readTold_94 : decode cX1_readTold 94 = .ok (.iinc 1 1, 3) := by decide +kernel
theorem dX1_readTold_97 : decode cX1_readTold 97 = .ok (.goto (-95), 3) := by decide +kernel
theorem dX1_readTold_100 : decode cX1_readTold 100 = .ok (.return_, 1) := by decide +kernel
set_option maxRecDepth 20000 in
theorem ggX1_countBefore_J7_fill_d0a16 : GoodIn wsX1_countBefore wsJ7_fill_d0a16 := goodIn_r _ [6] (by decide +kernel) (by decide +kernel)
set_option maxRecDepth 20000 in
theorem gX1_countBefore_J7_fill_d0a16 : GoodIn wsX1_countBefore (va_wsS RX1 155 yJ7_fill_d0a16 wsJ7_fill_d0a16) := goodIn_app (goodIn_of _ (by decide +kernel)) ggX1_countBefore_J7_fill_d0a16
set_option maxRecDepth 20000 in
theorem ggX1_countBefore_X2_cells : GoodIn wsX1_countBefore wsX2_cells := goodIn_r _ [11, 12, 13, 67, 68, 69, 70, 71] (by decide +kernel) (by decide +kernel)
set_option maxRecDepth 20000 in
theorem gX1_countBefore_X2_cells : GoodIn wsX1_countBefore (wsV RX1 87 RX2 yX2_cells wsX2_cells) := goodIn_app (goodIn_of _ (by decide +kernel)) ggX1_countBefore_X2_cells
set_option maxRecDepth 20000 in
theorem ggX1_countBefore_X1_addBefore : GoodIn wsX1_countBefore wsX1_addBefore := goodIn_r _ [18, 1, 19, 20, 21, 17, 22, 23, 24, 25, 26, 27, 28, 29, 30, 31, 32, 33, 34, 35, 36, 2, 37, 38, 39, 10, 40, 41, 42, 43, 44, 45, 46, 47, 48, 49, 12, 13, 50, 51, 52, 53, 54, 55, 56, 57, 58, 59, 60, 61, 62, 63, 64, 65, 66, 67, 68, 69, 70, 71] (by decide +kernel) (by decide +kernel)
set_option maxRecDepth 20000 in
theorem gX1_countBefore_X1_addBefore : GoodIn wsX1_countBefore (wsV RX1 158 RX1 yX1_addBefore wsX1_addBefore) := goodIn_app (goodIn_of _ (by decide +kernel)) ggX1_countBefore_X1_addBefore
theorem dX1_countBefore_0 : decode cX1_countBefore 0 = .ok (.aload_n 0, 1) := by decide +kernel
theorem dX1_countBefore_1 : decode cX1_countBefore 1 = .ok (.getfield 23, 3) := by decide +kernel
theorem dX1_countBefore_4 : decode cX1_countBefore 4 = .ok (.iconst 0, 1) := by decide +kernel
theorem dX1_countBefore_5 : decode cX1_countBefore 5 = .ok (.aaload, 1) := by decide +kernel
theorem dX1_countBefore_6 : decode cX1_countBefore 6 = .ok (.lconst 0, 1) := by decide +kernel
theorem dX1_countBefore_7 : decode cX1_countBefore 7 = .ok (.invokestatic 155, 3) := by decide +kernel
theorem dX1_countBefore_10 : decode cX1_countBefore 10 = .ok (.aload_n 0, 1) := by decide +kernel
theorem dX1_countBefore_11 : decode cX1_countBefore 11 = .ok (.getfield 23, 3) := by decide +kernel
theorem dX1_countBefore_14 : decode cX1_countBefore 14 = .ok (.iconst 0, 1) := by decide +kernel
theorem dX1_countBefore_15 : decode cX1_countBefore 15 = .ok (.aaload, 1) := by decide +kernel
theorem dX1_countBefore_16 : decode cX1_countBefore 16 = .ok (.iconst 0, 1) := by decide +kernel
theorem dX1_countBefore_17 : decode cX1_countBefore 17 = .ok (.lconst 1, 1) := by decide +kernel
theorem dX1_countBefore_18 : decode cX1_countBefore 18 = .ok (.lastore, 1) := by decide +kernel
theorem dX1_countBefore_19 : decode cX1_countBefore 19 = .ok (.iconst 0, 1) := by decide +kernel
theorem dX1_countBefore_20 : decode cX1_countBefore 20 = .ok (.istore_n 1, 1) := by decide +kernel
theorem dX1_countBefore_21 : decode cX1_countBefore 21 = .ok (.iload_n 1, 1) := by decide +kernel
theorem dX1_countBefore_22 : decode cX1_countBefore 22 = .ok (.aload_n 0, 1) := by decide +kernel
theorem dX1_countBefore_23 : decode cX1_countBefore 23 = .ok (.getfield 39, 3) := by decide +kernel
theorem dX1_countBefore_26 : decode cX1_countBefore 26 = .ok (.invokevirtual 87, 3) := by decide +kernel
theorem dX1_countBefore_29 : decode cX1_countBefore 29 = .ok (.if_icmp .ge 40, 3) := by decide +kernel
theorem dX1_countBefore_32 : decode cX1_countBefore 32 = .ok (.aload_n 0, 1) := by decide +kernel
theorem dX1_countBefore_33 : decode cX1_countBefore 33 = .ok (.getfield 23, 3) := by decide +kernel
theorem dX1_countBefore_36 : decode cX1_countBefore 36 = .ok (.iload_n 1, 1) := by decide +kernel
theorem dX1_countBefore_37 : decode cX1_countBefore 37 = .ok (.iconst 1, 1) := by decide +kernel
theorem dX1_countBefore_38 : decode cX1_countBefore 38 = .ok (.iadd, 1) := by decide +kernel
theorem dX1_countBefore_39 : decode cX1_countBefore 39 = .ok (.aaload, 1) := by decide +kernel
theorem dX1_countBefore_40 : decode cX1_countBefore 40 = .ok (.lconst 0, 1) := by decide +kernel
theorem dX1_countBefore_41 : decode cX1_countBefore 41 = .ok (.invokestatic 155, 3) := by decide +kernel
theorem dX1_countBefore_44 : decode cX1_countBefore 44 = .ok (.iconst 0, 1) := by decide +kernel
theorem dX1_countBefore_45 : decode cX1_countBefore 45 = .ok (.istore_n 2, 1) := by decide +kernel
theorem dX1_countBefore_46 : decode cX1_countBefore 46 = .ok (.iload_n 2, 1) := by decide +kernel
theorem dX1_countBefore_47 : decode cX1_countBefore 47 = .ok (.iconst 4, 1) := by decide +kernel
theorem dX1_countBefore_48 : decode cX1_countBefore 48 = .ok (.if_icmp .ge 15, 3) := by decide +kernel
theorem dX1_countBefore_51 : decode cX1_countBefore 51 = .ok (.aload_n 0, 1) := by decide +kernel
theorem dX1_countBefore_52 : decode cX1_countBefore 52 = .ok (.iload_n 1, 1) := by decide +kernel
theorem dX1_countBefore_53 : decode cX1_countBefore 53 = .ok (.iload_n 2, 1) := by decide +kernel
theorem dX1_countBefore_54 : decode cX1_countBefore 54 = .ok (.invokevirtual 158, 3) := by decide +kernel
theorem dX1_countBefore_57 : decode cX1_countBefore 57 = .ok (.iinc 2 1, 3) := by decide +kernel
theorem dX1_countBefore_60 : decode cX1_countBefore 60 = .ok (.goto (-14), 3) := by decide +kernel
theorem dX1_countBefore_63 : decode cX1_countBefore 63 = .ok (.iinc 1 1, 3) := by decide +kernel
theorem dX1_countBefore_66 : decode cX1_countBefore 66 = .ok (.goto (-45), 3) := by decide +kernel
theorem dX1_countBefore_69 : decode cX1_countBefore 69 = .ok (.return_, 1) := by decide +kernel
set_option maxRecDepth 20000 in
theorem ggX1_addBefore_X1_heightsOf : GoodIn wsX1_addBefore wsX1_heightsOf := goodIn_r _ [6, 7, 8, 9, 45, 46, 47, 48, 49, 50, 51, 52, 53, 54] (by decide +kernel) (by decide +kernel)
set_option maxRecDepth 20000 in
theorem gX1_addBefore_X1_heightsOf : GoodIn wsX1_addBefore (wsV RX1 109 RX1 yX1_heightsOf wsX1_heightsOf) := goodIn_app (goodIn_of _ (by decide +kernel)) ggX1_addBefore_X1_heightsOf
set_option maxRecDepth 20000 in
theorem ggX1_addBefore_J6_bitCount_0f7a4 : GoodIn wsX1_addBefore wsJ6_bitCount_0f7a4 := goodIn_r _ [13, 14, 15, 16] (by decide +kernel) (by decide +kernel)
set_option maxRecDepth 20000 in
theorem gX1_addBefore_J6_bitCount_0f7a4 : GoodIn wsX1_addBefore (va_wsS RX1 161 yJ6_bitCount_0f7a4 wsJ6_bitCount_0f7a4) := goodIn_app (goodIn_of _ (by decide +kernel)) ggX1_addBefore_J6_bitCount_0f7a4
set_option maxRecDepth 20000 in
theorem ggX1_addBefore_X1_linesMet : GoodIn wsX1_addBefore wsX1_linesMet := goodIn_r _ [20, 21, 22, 23, 24, 25, 26, 27, 45, 46, 47, 48, 49, 50, 51, 52, 53, 54, 55, 56, 57, 58, 59] (by decide +kernel) (by decide +kernel)
set_option maxRecDepth 20000 in
theorem gX1_addBefore_X1_linesMet : GoodIn wsX1_addBefore (wsV RX1 69 RX1 yX1_linesMet wsX1_linesMet) := goodIn_app (goodIn_of _ (by decide +kernel)) ggX1_addBefore_X1_linesMet
set_option maxRecDepth 20000 in
theorem ggX1_addBefore_X1_endsRow : GoodIn wsX1_addBefore wsX1_endsRow := goodIn_r _ [31, 21, 22, 23, 24, 25, 26, 27, 32, 33, 34, 35, 36, 37, 45, 46, 47, 48, 49, 50, 51, 52, 53, 54, 55, 56, 57, 58, 59] (by decide +kernel) (by decide +kernel)
set_option maxRecDepth 20000 in
theorem gX1_addBefore_X1_endsRow : GoodIn wsX1_addBefore (wsV RX1 72 RX1 yX1_endsRow wsX1_endsRow) := goodIn_app (goodIn_of _ (by decide +kernel)) ggX1_addBefore_X1_endsRow
set_option maxRecDepth 20000 in
theorem ggX1_addBefore_X1_states : GoodIn wsX1_addBefore wsX1_states := goodIn_r _ [41, 21, 32, 33, 34, 25, 35, 36, 37, 45, 46, 47, 48, 49, 50, 51, 52, 53, 54, 55, 56, 57, 58, 59] (by decide +kernel) (by decide +kernel)
set_option maxRecDepth 20000 in
theorem gX1_addBefore_X1_states : GoodIn wsX1_addBefore (wsV RX1 76 RX1 yX1_states wsX1_states) := goodIn_app (goodIn_of _ (by decide +kernel)) ggX1_addBefore_X1_states
set_option maxRecDepth 20000 in
theorem ggX1_addBefore_X1_after : GoodIn wsX1_addBefore wsX1_after := goodIn_r _ [44] (by decide +kernel) (by decide +kernel)
set_option maxRecDepth 20000 in
theorem gX1_addBefore_X1_after : GoodIn wsX1_addBefore (va_wsS RX1 79 yX1_after wsX1_after) := goodIn_app (goodIn_of _ (by decide +kernel)) ggX1_addBefore_X1_after
theorem dX1_addBefore_0 : decode cX1_addBefore 0 = .ok (.aload_n 0, 1) := by decide +kernel
theorem dX1_addBefore_1 : decode cX1_addBefore 1 = .ok (.iload_n 1, 1) := by decide +kernel
theorem dX1_addBefore_2 : decode cX1_addBefore 2 = .ok (.iload_n 2, 1) := by decide +kernel
theorem dX1_addBefore_3 : decode cX1_addBefore 3 = .ok (.invokevirtual 109, 3) := by decide +kernel
theorem dX1_addBefore_6 : decode cX1_addBefore 6 = .ok (.invokestatic 161, 3) := by decide +kernel
theorem dX1_addBefore_9 : decode cX1_addBefore 9 = .ok (.istore_n 3, 1) := by decide +kernel
theorem dX1_addBefore_10 : decode cX1_addBefore 10 = .ok (.iload_n 3, 1) := by decide +kernel
theorem dX1_addBefore_11 : decode cX1_addBefore 11 = .ok (.ifCond .ne 4, 3) := by decide +kernel
theorem dX1_addBefore_14 : decode cX1_addBefore 14 = .ok (.return_, 1) := by decide +kernel
theorem dX1_addBefore_15 : decode cX1_addBefore 15 = .ok (.aload_n 0, 1) := by decide +kernel
theorem dX1_addBefore_16 : decode cX1_addBefore 16 = .ok (.iload_n 1, 1) := by decide +kernel
theorem dX1_addBefore_17 : decode cX1_addBefore 17 = .ok (.iload_n 2, 1) := by decide +kernel
theorem dX1_addBefore_18 : decode cX1_addBefore 18 = .ok (.invokevirtual 69, 3) := by decide +kernel
theorem dX1_addBefore_21 : decode cX1_addBefore 21 = .ok (.istore 4, 2) := by decide +kernel
theorem dX1_addBefore_23 : decode cX1_addBefore 23 = .ok (.aload_n 0, 1) := by decide +kernel
theorem dX1_addBefore_24 : decode cX1_addBefore 24 = .ok (.iload_n 1, 1) := by decide +kernel
theorem dX1_addBefore_25 : decode cX1_addBefore 25 = .ok (.invokevirtual 72, 3) := by decide +kernel
theorem dX1_addBefore_28 : decode cX1_addBefore 28 = .ok (.istore 5, 2) := by decide +kernel
theorem dX1_addBefore_30 : decode cX1_addBefore 30 = .ok (.aload_n 0, 1) := by decide +kernel
theorem dX1_addBefore_31 : decode cX1_addBefore 31 = .ok (.invokevirtual 76, 3) := by decide +kernel
theorem dX1_addBefore_34 : decode cX1_addBefore 34 = .ok (.istore 6, 2) := by decide +kernel
theorem dX1_addBefore_36 : decode cX1_addBefore 36 = .ok (.aload_n 0, 1) := by decide +kernel
theorem dX1_addBefore_37 : decode cX1_addBefore 37 = .ok (.getfield 23, 3) := by decide +kernel
theorem dX1_addBefore_40 : decode cX1_addBefore 40 = .ok (.iload_n 1, 1) := by decide +kernel
theorem dX1_addBefore_41 : decode cX1_addBefore 41 = .ok (.aaload, 1) := by decide +kernel
theorem dX1_addBefore_42 : decode cX1_addBefore 42 = .ok (.astore 7, 2) := by decide +kernel
theorem dX1_addBefore_44 : decode cX1_addBefore 44 = .ok (.aload_n 0, 1) := by decide +kernel
theorem dX1_addBefore_45 : decode cX1_addBefore 45 = .ok (.getfield 23, 3) := by decide +kernel
theorem dX1_addBefore_48 : decode cX1_addBefore 48 = .ok (.iload_n 1, 1) := by decide +kernel
theorem dX1_addBefore_49 : decode cX1_addBefore 49 = .ok (.iconst 1, 1) := by decide +kernel
theorem dX1_addBefore_50 : decode cX1_addBefore 50 = .ok (.iadd, 1) := by decide +kernel
theorem dX1_addBefore_51 : decode cX1_addBefore 51 = .ok (.aaload, 1) := by decide +kernel
theorem dX1_addBefore_52 : decode cX1_addBefore 52 = .ok (.astore 8, 2) := by decide +kernel
theorem dX1_addBefore_54 : decode cX1_addBefore 54 = .ok (.iconst 0, 1) := by decide +kernel
theorem dX1_addBefore_55 : decode cX1_addBefore 55 = .ok (.istore 9, 2) := by decide +kernel
theorem dX1_addBefore_57 : decode cX1_addBefore 57 = .ok (.iload 9, 2) := by decide +kernel
theorem dX1_addBefore_59 : decode cX1_addBefore 59 = .ok (.iload 6, 2) := by decide +kernel
theorem dX1_addBefore_61 : decode cX1_addBefore 61 = .ok (.if_icmp .ge 56, 3) := by decide +kernel
theorem dX1_addBefore_64 : decode cX1_addBefore 64 = .ok (.aload 7, 2) := by decide +kernel
theorem dX1_addBefore_66 : decode cX1_addBefore 66 = .ok (.iload 9, 2) := by decide +kernel
theorem dX1_addBefore_68 : decode cX1_addBefore 68 = .ok (.laload, 1) := by decide +kernel
theorem dX1_addBefore_69 : decode cX1_addBefore 69 = .ok (.lconst 0, 1) := by decide +kernel
theorem dX1_addBefore_70 : decode cX1_addBefore 70 = .ok (.lcmp, 1) := by decide +kernel
theorem dX1_addBefore_71 : decode cX1_addBefore 71 = .ok (.ifCond .ne 6, 3) := by decide +kernel
theorem dX1_addBefore_74 : decode cX1_addBefore 74 = .ok (.goto 37, 3) := by decide +kernel
theorem dX1_addBefore_77 : decode cX1_addBefore 77 = .ok (.iload 9, 2) := by decide +kernel
theorem dX1_addBefore_79 : decode cX1_addBefore 79 = .ok (.iload 4, 2) := by decide +kernel
theorem dX1_addBefore_81 : decode cX1_addBefore 81 = .ok (.ior, 1) := by decide +kernel
theorem dX1_addBefore_82 : decode cX1_addBefore 82 = .ok (.iload 5, 2) := by decide +kernel
theorem dX1_addBefore_84 : decode cX1_addBefore 84 = .ok (.invokestatic 79, 3) := by decide +kernel
theorem dX1_addBefore_87 : decode cX1_addBefore 87 = .ok (.istore 10, 2) := by decide +kernel
theorem dX1_addBefore_89 : decode cX1_addBefore 89 = .ok (.iload 10, 2) := by decide +kernel
theorem dX1_addBefore_91 : decode cX1_addBefore 91 = .ok (.iconst (-1), 1) := by decide +kernel
theorem dX1_addBefore_92 : decode cX1_addBefore 92 = .ok (.if_icmp .eq 19, 3) := by decide +kernel
theorem dX1_addBefore_95 : decode cX1_addBefore 95 = .ok (.aload 8, 2) := by decide +kernel
theorem dX1_addBefore_97 : decode cX1_addBefore 97 = .ok (.iload 10, 2) := by decide +kernel
theorem dX1_addBefore_99 : decode cX1_addBefore 99 = .ok (.dup2, 1) := by decide +kernel
theorem dX1_addBefore_100 : decode cX1_addBefore 100 = .ok (.laload, 1) := by decide +kernel
theorem dX1_addBefore_101 : decode cX1_addBefore 101 = .ok (.iload_n 3, 1) := by decide +kernel
theorem dX1_addBefore_102 : decode cX1_addBefore 102 = .ok (.i2l, 1) := by decide +kernel
theorem dX1_addBefore_103 : decode cX1_addBefore 103 = .ok (.aload 7, 2) := by decide +kernel
theorem dX1_addBefore_105 : decode cX1_addBefore 105 = .ok (.iload 9, 2) := by decide +kernel
theorem dX1_addBefore_107 : decode cX1_addBefore 107 = .ok (.laload, 1) := by decide +kernel
theorem dX1_addBefore_108 : decode cX1_addBefore 108 = .ok (.lmul, 1) := by decide +kernel
theorem dX1_addBefore_109 : decode cX1_addBefore 109 = .ok (.ladd, 1) := by decide +kernel
theorem dX1_addBefore_110 : decode cX1_addBefore 110 = .ok (.lastore, 1) := by decide +kernel
theorem dX1_addBefore_111 : decode cX1_addBefore 111 = .ok (.iinc 9 1, 3) := by decide +kernel
theorem dX1_addBefore_114 : decode cX1_addBefore 114 = .ok (.goto (-57), 3) := by decide +kernel
theorem dX1_addBefore_117 : decode cX1_addBefore 117 = .ok (.return_, 1) := by decide +kernel
set_option maxRecDepth 20000 in
theorem ggX1_countBehind_X2_cells : GoodIn wsX1_countBehind wsX2_cells := goodIn_r _ [7, 8, 9, 72, 73, 74, 75, 76] (by decide +kernel) (by decide +kernel)
set_option maxRecDepth 20000 in
theorem gX1_countBehind_X2_cells : GoodIn wsX1_countBehind (wsV RX1 87 RX2 yX2_cells wsX2_cells) := goodIn_app (goodIn_of _ (by decide +kernel)) ggX1_countBehind_X2_cells
set_option maxRecDepth 20000 in
theorem ggX1_countBehind_J7_fill_d0a16 : GoodIn wsX1_countBehind wsJ7_fill_d0a16 := goodIn_r _ [13] (by decide +kernel) (by decide +kernel)
set_option maxRecDepth 20000 in
theorem gX1_countBehind_J7_fill_d0a16 : GoodIn wsX1_countBehind (va_wsS RX1 155 yJ7_fill_d0a16 wsJ7_fill_d0a16) := goodIn_app (goodIn_of _ (by decide +kernel)) ggX1_countBehind_J7_fill_d0a16
set_option maxRecDepth 20000 in
theorem ggX1_countBehind_X1_allMet : GoodIn wsX1_countBehind wsX1_allMet := goodIn_r _ [18, 19, 20, 21, 17, 22, 1, 23, 24, 25, 6, 26, 8, 9, 62, 63, 64, 65, 66, 67, 68, 69, 70, 71, 72, 73, 74, 75, 76] (by decide +kernel) (by decide +kernel)
set_option maxRecDepth 20000 in
theorem gX1_countBehind_X1_allMet : GoodIn wsX1_countBehind (wsV RX1 106 RX1 yX1_allMet wsX1_allMet) := goodIn_app (goodIn_of _ (by decide +kernel)) ggX1_countBehind_X1_allMet
set_option maxRecDepth 20000 in
theorem ggX1_countBehind_X1_addBehind : GoodIn wsX1_countBehind wsX1_addBehind := goodIn_r _ [30, 2, 31, 32, 33, 34, 17, 35, 36, 37, 38, 39, 40, 41, 42, 43, 44, 45, 46, 47, 48, 49, 1, 50, 51, 52, 6, 53, 54, 55, 56, 57, 58, 23, 24, 25, 26, 8, 9, 19, 20, 21, 22, 59, 60, 61, 62, 63, 64, 65, 66, 67, 68, 69, 70, 71, 72, 73, 74, 75, 76] (by decide +kernel) (by decide +kernel)
set_option maxRecDepth 20000 in
theorem gX1_countBehind_X1_addBehind : GoodIn wsX1_countBehind (wsV RX1 164 RX1 yX1_addBehind wsX1_addBehind) := goodIn_app (goodIn_of _ (by decide +kernel)) ggX1_countBehind_X1_addBehind
theorem dX1_countBehind_0 : decode cX1_countBehind 0 = .ok (.aload_n 0, 1) := by decide +kernel
theorem dX1_countBehind_1 : decode cX1_countBehind 1 = .ok (.getfield 39, 3) := by decide +kernel
theorem dX1_countBehind_4 : decode cX1_countBehind 4 = .ok (.invokevirtual 87, 3) := by decide +kernel
theorem dX1_countBehind_7 : decode cX1_countBehind 7 = .ok (.istore_n 1, 1) := by decide +kernel
theorem dX1_countBehind_8 : decode cX1_countBehind 8 = .ok (.aload_n 0, 1) := by decide +kernel
theorem dX1_countBehind_9 : decode cX1_countBehind 9 = .ok (.getfield 26, 3) := by decide +kernel
theorem dX1_countBehind_12 : decode cX1_countBehind 12 = .ok (.iload_n 1, 1) := by decide +kernel
theorem dX1_countBehind_13 : decode cX1_countBehind 13 = .ok (.aaload, 1) := by decide +kernel
theorem dX1_countBehind_14 : decode cX1_countBehind 14 = .ok (.lconst 0, 1) := by decide +kernel
theorem dX1_countBehind_15 : decode cX1_countBehind 15 = .ok (.invokestatic 155, 3) := by decide +kernel
theorem dX1_countBehind_18 : decode cX1_countBehind 18 = .ok (.aload_n 0, 1) := by decide +kernel
theorem dX1_countBehind_19 : decode cX1_countBehind 19 = .ok (.getfield 26, 3) := by decide +kernel
theorem dX1_countBehind_22 : decode cX1_countBehind 22 = .ok (.iload_n 1, 1) := by decide +kernel
theorem dX1_countBehind_23 : decode cX1_countBehind 23 = .ok (.aaload, 1) := by decide +kernel
theorem dX1_countBehind_24 : decode cX1_countBehind 24 = .ok (.aload_n 0, 1) := by decide +kernel
theorem dX1_countBehind_25 : decode cX1_countBehind 25 = .ok (.invokevirtual 106, 3) := by decide +kernel
theorem dX1_countBehind_28 : decode cX1_countBehind 28 = .ok (.lconst 1, 1) := by decide +kernel
theorem dX1_countBehind_29 : decode cX1_countBehind 29 = .ok (.lastore, 1) := by decide +kernel
theorem dX1_countBehind_30 : decode cX1_countBehind 30 = .ok (.iload_n 1, 1) := by decide +kernel
theorem dX1_countBehind_31 : decode cX1_countBehind 31 = .ok (.iconst 1, 1) := by decide +kernel
theorem dX1_countBehind_32 : decode cX1_countBehind 32 = .ok (.isub, 1) := by decide +kernel
theorem dX1_countBehind_33 : decode cX1_countBehind 33 = .ok (.istore_n 2, 1) := by decide +kernel
theorem dX1_countBehind_34 : decode cX1_countBehind 34 = .ok (.iload_n 2, 1) := by decide +kernel
theorem dX1_countBehind_35 : decode cX1_countBehind 35 = .ok (.ifCond .lt 38, 3) := by decide +kernel
theorem dX1_countBehind_38 : decode cX1_countBehind 38 = .ok (.aload_n 0, 1) := by decide +kernel
theorem dX1_countBehind_39 : decode cX1_countBehind 39 = .ok (.getfield 26, 3) := by decide +kernel
theorem dX1_countBehind_42 : decode cX1_countBehind 42 = .ok (.iload_n 2, 1) := by decide +kernel
theorem dX1_countBehind_43 : decode cX1_countBehind 43 = .ok (.aaload, 1) := by decide +kernel
theorem dX1_countBehind_44 : decode cX1_countBehind 44 = .ok (.lconst 0, 1) := by decide +kernel
theorem dX1_countBehind_45 : decode cX1_countBehind 45 = .ok (.invokestatic 155, 3) := by decide +kernel
theorem dX1_countBehind_48 : decode cX1_countBehind 48 = .ok (.iconst 0, 1) := by decide +kernel
theorem dX1_countBehind_49 : decode cX1_countBehind 49 = .ok (.istore_n 3, 1) := by decide +kernel
theorem dX1_countBehind_50 : decode cX1_countBehind 50 = .ok (.iload_n 3, 1) := by decide +kernel
theorem dX1_countBehind_51 : decode cX1_countBehind 51 = .ok (.iconst 4, 1) := by decide +kernel
theorem dX1_countBehind_52 : decode cX1_countBehind 52 = .ok (.if_icmp .ge 15, 3) := by decide +kernel
theorem dX1_countBehind_55 : decode cX1_countBehind 55 = .ok (.aload_n 0, 1) := by decide +kernel
theorem dX1_countBehind_56 : decode cX1_countBehind 56 = .ok (.iload_n 2, 1) := by decide +kernel
theorem dX1_countBehind_57 : decode cX1_countBehind 57 = .ok (.iload_n 3, 1) := by decide +kernel
theorem dX1_countBehind_58 : decode cX1_countBehind 58 = .ok (.invokevirtual 164, 3) := by decide +kernel
theorem dX1_countBehind_61 : decode cX1_countBehind 61 = .ok (.iinc 3 1, 3) := by decide +kernel
theorem dX1_countBehind_64 : decode cX1_countBehind 64 = .ok (.goto (-14), 3) := by decide +kernel
theorem dX1_countBehind_67 : decode cX1_countBehind 67 = .ok (.iinc 2 (-1), 3) := by decide +kernel
theorem dX1_countBehind_70 : decode cX1_countBehind 70 = .ok (.goto (-36), 3) := by decide +kernel
theorem dX1_countBehind_73 : decode cX1_countBehind 73 = .ok (.return_, 1) := by decide +kernel
set_option maxRecDepth 20000 in
theorem ggX1_addBehind_X1_heightsOf : GoodIn wsX1_addBehind wsX1_heightsOf := goodIn_r _ [7, 8, 9, 10, 46, 47, 48, 49, 50, 51, 52, 53, 54, 55] (by decide +kernel) (by decide +kernel)
set_option maxRecDepth 20000 in
theorem gX1_addBehind_X1_heightsOf : GoodIn wsX1_addBehind (wsV RX1 109 RX1 yX1_heightsOf wsX1_heightsOf) := goodIn_app (goodIn_of _ (by decide +kernel)) ggX1_addBehind_X1_heightsOf
set_option maxRecDepth 20000 in
theorem ggX1_addBehind_J6_bitCount_0f7a4 : GoodIn wsX1_addBehind wsJ6_bitCount_0f7a4 := goodIn_r _ [14, 15, 16, 17] (by decide +kernel) (by decide +kernel)
set_option maxRecDepth 20000 in
theorem gX1_addBehind_J6_bitCount_0f7a4 : GoodIn wsX1_addBehind (va_wsS RX1 161 yJ6_bitCount_0f7a4 wsJ6_bitCount_0f7a4) := goodIn_app (goodIn_of _ (by decide +kernel)) ggX1_addBehind_J6_bitCount_0f7a4
set_option maxRecDepth 20000 in
theorem ggX1_addBehind_X1_linesMet : GoodIn wsX1_addBehind wsX1_linesMet := goodIn_r _ [21, 22, 23, 24, 25, 26, 27, 28, 46, 47, 48, 49, 50, 51, 52, 53, 54, 55, 56, 57, 58, 59, 60] (by decide +kernel) (by decide +kernel)
set_option maxRecDepth 20000 in
theorem gX1_addBehind_X1_linesMet : GoodIn wsX1_addBehind (wsV RX1 69 RX1 yX1_linesMet wsX1_linesMet) := goodIn_app (goodIn_of _ (by decide +kernel)) ggX1_addBehind_X1_linesMet
set_option maxRecDepth 20000 in
theorem ggX1_addBehind_X1_endsRow : GoodIn wsX1_addBehind wsX1_endsRow := goodIn_r _ [32, 22, 23, 24, 25, 26, 27, 28, 33, 34, 35, 36, 37, 38, 46, 47, 48, 49, 50, 51, 52, 53, 54, 55, 56, 57, 58, 59, 60] (by decide +kernel) (by decide +kernel)
set_option maxRecDepth 20000 in
theorem gX1_addBehind_X1_endsRow : GoodIn wsX1_addBehind (wsV RX1 72 RX1 yX1_endsRow wsX1_endsRow) := goodIn_app (goodIn_of _ (by decide +kernel)) ggX1_addBehind_X1_endsRow
set_option maxRecDepth 20000 in
theorem ggX1_addBehind_X1_states : GoodIn wsX1_addBehind wsX1_states := goodIn_r _ [42, 22, 33, 34, 35, 26, 36, 37, 38, 46, 47, 48, 49, 50, 51, 52, 53, 54, 55, 56, 57, 58, 59, 60] (by decide +kernel) (by decide +kernel)
set_option maxRecDepth 20000 in
theorem gX1_addBehind_X1_states : GoodIn wsX1_addBehind (wsV RX1 76 RX1 yX1_states wsX1_states) := goodIn_app (goodIn_of _ (by decide +kernel)) ggX1_addBehind_X1_states
set_option maxRecDepth 20000 in
theorem ggX1_addBehind_X1_after : GoodIn wsX1_addBehind wsX1_after := goodIn_r _ [45] (by decide +kernel) (by decide +kernel)
set_option maxRecDepth 20000 in
theorem gX1_addBehind_X1_after : GoodIn wsX1_addBehind (va_wsS RX1 79 yX1_after wsX1_after) := goodIn_app (goodIn_of _ (by decide +kernel)) ggX1_addBehind_X1_after
theorem dX1_addBehind_0 : decode cX1_addBehind 0 = .ok (.aload_n 0, 1) := by decide +kernel
theorem dX1_addBehind_1 : decode cX1_addBehind 1 = .ok (.iload_n 1, 1) := by decide +kernel
theorem dX1_addBehind_2 : decode cX1_addBehind 2 = .ok (.iload_n 2, 1) := by decide +kernel
theorem dX1_addBehind_3 : decode cX1_addBehind 3 = .ok (.invokevirtual 109, 3) := by decide +kernel
theorem dX1_addBehind_6 : decode cX1_addBehind 6 = .ok (.invokestatic 161, 3) := by decide +kernel
theorem dX1_addBehind_9 : decode cX1_addBehind 9 = .ok (.istore_n 3, 1) := by decide +kernel
theorem dX1_addBehind_10 : decode cX1_addBehind 10 = .ok (.iload_n 3, 1) := by decide +kernel
theorem dX1_addBehind_11 : decode cX1_addBehind 11 = .ok (.ifCond .ne 4, 3) := by decide +kernel
theorem dX1_addBehind_14 : decode cX1_addBehind 14 = .ok (.return_, 1) := by decide +kernel
theorem dX1_addBehind_15 : decode cX1_addBehind 15 = .ok (.aload_n 0, 1) := by decide +kernel
theorem dX1_addBehind_16 : decode cX1_addBehind 16 = .ok (.iload_n 1, 1) := by decide +kernel
theorem dX1_addBehind_17 : decode cX1_addBehind 17 = .ok (.iload_n 2, 1) := by decide +kernel
theorem dX1_addBehind_18 : decode cX1_addBehind 18 = .ok (.invokevirtual 69, 3) := by decide +kernel
theorem dX1_addBehind_21 : decode cX1_addBehind 21 = .ok (.istore 4, 2) := by decide +kernel
theorem dX1_addBehind_23 : decode cX1_addBehind 23 = .ok (.aload_n 0, 1) := by decide +kernel
theorem dX1_addBehind_24 : decode cX1_addBehind 24 = .ok (.iload_n 1, 1) := by decide +kernel
theorem dX1_addBehind_25 : decode cX1_addBehind 25 = .ok (.invokevirtual 72, 3) := by decide +kernel
theorem dX1_addBehind_28 : decode cX1_addBehind 28 = .ok (.istore 5, 2) := by decide +kernel
theorem dX1_addBehind_30 : decode cX1_addBehind 30 = .ok (.aload_n 0, 1) := by decide +kernel
theorem dX1_addBehind_31 : decode cX1_addBehind 31 = .ok (.invokevirtual 76, 3) := by decide +kernel
theorem dX1_addBehind_34 : decode cX1_addBehind 34 = .ok (.istore 6, 2) := by decide +kernel
theorem dX1_addBehind_36 : decode cX1_addBehind 36 = .ok (.aload_n 0, 1) := by decide +kernel
theorem dX1_addBehind_37 : decode cX1_addBehind 37 = .ok (.getfield 26, 3) := by decide +kernel
theorem dX1_addBehind_40 : decode cX1_addBehind 40 = .ok (.iload_n 1, 1) := by decide +kernel
theorem dX1_addBehind_41 : decode cX1_addBehind 41 = .ok (.aaload, 1) := by decide +kernel
theorem dX1_addBehind_42 : decode cX1_addBehind 42 = .ok (.astore 7, 2) := by decide +kernel
theorem dX1_addBehind_44 : decode cX1_addBehind 44 = .ok (.aload_n 0, 1) := by decide +kernel
theorem dX1_addBehind_45 : decode cX1_addBehind 45 = .ok (.getfield 26, 3) := by decide +kernel
theorem dX1_addBehind_48 : decode cX1_addBehind 48 = .ok (.iload_n 1, 1) := by decide +kernel
theorem dX1_addBehind_49 : decode cX1_addBehind 49 = .ok (.iconst 1, 1) := by decide +kernel
theorem dX1_addBehind_50 : decode cX1_addBehind 50 = .ok (.iadd, 1) := by decide +kernel
theorem dX1_addBehind_51 : decode cX1_addBehind 51 = .ok (.aaload, 1) := by decide +kernel
theorem dX1_addBehind_52 : decode cX1_addBehind 52 = .ok (.astore 8, 2) := by decide +kernel
theorem dX1_addBehind_54 : decode cX1_addBehind 54 = .ok (.iconst 0, 1) := by decide +kernel
theorem dX1_addBehind_55 : decode cX1_addBehind 55 = .ok (.istore 9, 2) := by decide +kernel
theorem dX1_addBehind_57 : decode cX1_addBehind 57 = .ok (.iload 9, 2) := by decide +kernel
theorem dX1_addBehind_59 : decode cX1_addBehind 59 = .ok (.iload 6, 2) := by decide +kernel
theorem dX1_addBehind_61 : decode cX1_addBehind 61 = .ok (.if_icmp .ge 60, 3) := by decide +kernel
theorem dX1_addBehind_64 : decode cX1_addBehind 64 = .ok (.aload_n 0, 1) := by decide +kernel
theorem dX1_addBehind_65 : decode cX1_addBehind 65 = .ok (.getfield 23, 3) := by decide +kernel
theorem dX1_addBehind_68 : decode cX1_addBehind 68 = .ok (.iload_n 1, 1) := by decide +kernel
theorem dX1_addBehind_69 : decode cX1_addBehind 69 = .ok (.aaload, 1) := by decide +kernel
theorem dX1_addBehind_70 : decode cX1_addBehind 70 = .ok (.iload 9, 2) := by decide +kernel
theorem dX1_addBehind_72 : decode cX1_addBehind 72 = .ok (.laload, 1) := by decide +kernel
theorem dX1_addBehind_73 : decode cX1_addBehind 73 = .ok (.lconst 0, 1) := by decide +kernel
theorem dX1_addBehind_74 : decode cX1_addBehind 74 = .ok (.lcmp, 1) := by decide +kernel
theorem dX1_addBehind_75 : decode cX1_addBehind 75 = .ok (.ifCond .ne 6, 3) := by decide +kernel
theorem dX1_addBehind_78 : decode cX1_addBehind 78 = .ok (.goto 37, 3) := by decide +kernel
theorem dX1_addBehind_81 : decode cX1_addBehind 81 = .ok (.iload 9, 2) := by decide +kernel
theorem dX1_addBehind_83 : decode cX1_addBehind 83 = .ok (.iload 4, 2) := by decide +kernel
theorem dX1_addBehind_85 : decode cX1_addBehind 85 = .ok (.ior, 1) := by decide +kernel
theorem dX1_addBehind_86 : decode cX1_addBehind 86 = .ok (.iload 5, 2) := by decide +kernel
theorem dX1_addBehind_88 : decode cX1_addBehind 88 = .ok (.invokestatic 79, 3) := by decide +kernel
theorem dX1_addBehind_91 : decode cX1_addBehind 91 = .ok (.istore 10, 2) := by decide +kernel
theorem dX1_addBehind_93 : decode cX1_addBehind 93 = .ok (.iload 10, 2) := by decide +kernel
theorem dX1_addBehind_95 : decode cX1_addBehind 95 = .ok (.iconst (-1), 1) := by decide +kernel
theorem dX1_addBehind_96 : decode cX1_addBehind 96 = .ok (.if_icmp .eq 19, 3) := by decide +kernel
theorem dX1_addBehind_99 : decode cX1_addBehind 99 = .ok (.aload 7, 2) := by decide +kernel
theorem dX1_addBehind_101 : decode cX1_addBehind 101 = .ok (.iload 9, 2) := by decide +kernel
theorem dX1_addBehind_103 : decode cX1_addBehind 103 = .ok (.dup2, 1) := by decide +kernel
theorem dX1_addBehind_104 : decode cX1_addBehind 104 = .ok (.laload, 1) := by decide +kernel
theorem dX1_addBehind_105 : decode cX1_addBehind 105 = .ok (.iload_n 3, 1) := by decide +kernel
theorem dX1_addBehind_106 : decode cX1_addBehind 106 = .ok (.i2l, 1) := by decide +kernel
theorem dX1_addBehind_107 : decode cX1_addBehind 107 = .ok (.aload 8, 2) := by decide +kernel
theorem dX1_addBehind_109 : decode cX1_addBehind 109 = .ok (.iload 10, 2) := by decide +kernel
theorem dX1_addBehind_111 : decode cX1_addBehind 111 = .ok (.laload, 1) := by decide +kernel
theorem dX1_addBehind_112 : decode cX1_addBehind 112 = .ok (.lmul, 1) := by decide +kernel
theorem dX1_addBehind_113 : decode cX1_addBehind 113 = .ok (.ladd, 1) := by decide +kernel
theorem dX1_addBehind_114 : decode cX1_addBehind 114 = .ok (.lastore, 1) := by decide +kernel
theorem dX1_addBehind_115 : decode cX1_addBehind 115 = .ok (.iinc 9 1, 3) := by decide +kernel
theorem dX1_addBehind_118 : decode cX1_addBehind 118 = .ok (.goto (-61), 3) := by decide +kernel
theorem dX1_addBehind_121 : decode cX1_addBehind 121 = .ok (.return_, 1) := by decide +kernel
set_option maxRecDepth 20000 in
theorem ggX1_states_X2_lines : GoodIn wsX1_states wsX2_lines := goodIn_r _ [6, 7, 8, 19, 20, 21, 22, 23] (by decide +kernel) (by decide +kernel)
set_option maxRecDepth 20000 in
theorem gX1_states_X2_lines : GoodIn wsX1_states (wsV RX1 167 RX2 yX2_lines wsX2_lines) := goodIn_app (goodIn_of _ (by decide +kernel)) ggX1_states_X2_lines
theorem dX1_states_0 : decode cX1_states 0 = .ok (.iconst 2, 1) := by decide +kernel
theorem dX1_states_1 : decode cX1_states 1 = .ok (.aload_n 0, 1) := by decide +kernel
theorem dX1_states_2 : decode cX1_states 2 = .ok (.getfield 39, 3) := by decide +kernel
theorem dX1_states_5 : decode cX1_states 5 = .ok (.iconst 1, 1) := by decide +kernel
theorem dX1_states_6 : decode cX1_states 6 = .ok (.invokevirtual 167, 3) := by decide +kernel
theorem dX1_states_9 : decode cX1_states 9 = .ok (.ishl, 1) := by decide +kernel
theorem dX1_states_10 : decode cX1_states 10 = .ok (.ireturn, 1) := by decide +kernel
set_option maxRecDepth 20000 in
theorem ggX1_allMet_X1_states : GoodIn wsX1_allMet wsX1_states := goodIn_r _ [5, 6, 7, 8, 9, 10, 11, 12, 13, 14, 15, 16, 17, 18, 19, 20, 21, 22, 23, 24, 25, 26, 27, 28] (by decide +kernel) (by decide +kernel)
set_option maxRecDepth 20000 in
theorem gX1_allMet_X1_states : GoodIn wsX1_allMet (wsV RX1 76 RX1 yX1_states wsX1_states) := goodIn_app (goodIn_of _ (by decide +kernel)) ggX1_allMet_X1_states
theorem dX1_allMet_0 : decode cX1_allMet 0 = .ok (.aload_n 0, 1) := by decide +kernel
theorem dX1_allMet_1 : decode cX1_allMet 1 = .ok (.invokevirtual 76, 3) := by decide +kernel
theorem dX1_allMet_4 : decode cX1_allMet 4 = .ok (.iconst 1, 1) := by decide +kernel
theorem dX1_allMet_5 : decode cX1_allMet 5 = .ok (.isub, 1) := by decide +kernel
theorem dX1_allMet_6 : decode cX1_allMet 6 = .ok (.iconst 1, 1) := by decide +kernel
theorem dX1_allMet_7 : decode cX1_allMet 7 = .ok (.isub, 1) := by decide +kernel
theorem dX1_allMet_8 : decode cX1_allMet 8 = .ok (.ireturn, 1) := by decide +kernel
theorem dX1_after_0 : decode cX1_after 0 = .ok (.iload_n 1, 1) := by decide +kernel
theorem dX1_after_1 : decode cX1_after 1 = .ok (.ifCond .ne 5, 3) := by decide +kernel
theorem dX1_after_4 : decode cX1_after 4 = .ok (.iload_n 0, 1) := by decide +kernel
theorem dX1_after_5 : decode cX1_after 5 = .ok (.ireturn, 1) := by decide +kernel
theorem dX1_after_6 : decode cX1_after 6 = .ok (.iload_n 0, 1) := by decide +kernel
theorem dX1_after_7 : decode cX1_after 7 = .ok (.iconst 1, 1) := by decide +kernel
theorem dX1_after_8 : decode cX1_after 8 = .ok (.iand, 1) := by decide +kernel
theorem dX1_after_9 : decode cX1_after 9 = .ok (.ifCond .ne 7, 3) := by decide +kernel
theorem dX1_after_12 : decode cX1_after 12 = .ok (.iconst (-1), 1) := by decide +kernel
theorem dX1_after_13 : decode cX1_after 13 = .ok (.goto 6, 3) := by decide +kernel
theorem dX1_after_16 : decode cX1_after 16 = .ok (.iload_n 0, 1) := by decide +kernel
theorem dX1_after_17 : decode cX1_after 17 = .ok (.iconst 1, 1) := by decide +kernel
theorem dX1_after_18 : decode cX1_after 18 = .ok (.isub, 1) := by decide +kernel
theorem dX1_after_19 : decode cX1_after 19 = .ok (.ireturn, 1) := by decide +kernel
set_option maxRecDepth 20000 in
theorem ggX1_afterHeight_X1_kindOf : GoodIn wsX1_afterHeight wsX1_kindOf := goodIn_r _ [5, 6, 7, 8, 9, 4, 10, 35, 36, 37, 38, 39, 40, 41, 42, 43, 44] (by decide +kernel) (by decide +kernel)
set_option maxRecDepth 20000 in
theorem gX1_afterHeight_X1_kindOf : GoodIn wsX1_afterHeight (wsV RX1 65 RX1 yX1_kindOf wsX1_kindOf) := goodIn_app (goodIn_of _ (by decide +kernel)) ggX1_afterHeight_X1_kindOf
set_option maxRecDepth 20000 in
theorem ggX1_afterHeight_X1_linesMet : GoodIn wsX1_afterHeight wsX1_linesMet := goodIn_r _ [14, 15, 16, 17, 18, 19, 20, 21, 35, 36, 37, 38, 39, 40, 41, 42, 43, 44, 45, 46, 47, 48, 49] (by decide +kernel) (by decide +kernel)
set_option maxRecDepth 20000 in
theorem gX1_afterHeight_X1_linesMet : GoodIn wsX1_afterHeight (wsV RX1 69 RX1 yX1_linesMet wsX1_linesMet) := goodIn_app (goodIn_of _ (by decide +kernel)) ggX1_afterHeight_X1_linesMet
set_option maxRecDepth 20000 in
theorem ggX1_afterHeight_X1_endsRow : GoodIn wsX1_afterHeight wsX1_endsRow := goodIn_r _ [25, 15, 16, 17, 18, 19, 20, 21, 26, 27, 28, 29, 30, 31, 35, 36, 37, 38, 39, 40, 41, 42, 43, 44, 45, 46, 47, 48, 49] (by decide +kernel) (by decide +kernel)
set_option maxRecDepth 20000 in
theorem gX1_afterHeight_X1_endsRow : GoodIn wsX1_afterHeight (wsV RX1 72 RX1 yX1_endsRow wsX1_endsRow) := goodIn_app (goodIn_of _ (by decide +kernel)) ggX1_afterHeight_X1_endsRow
set_option maxRecDepth 20000 in
theorem ggX1_afterHeight_X1_after : GoodIn wsX1_afterHeight wsX1_after := goodIn_r _ [34] (by decide +kernel) (by decide +kernel)
set_option maxRecDepth 20000 in
theorem gX1_afterHeight_X1_after : GoodIn wsX1_afterHeight (va_wsS RX1 79 yX1_after wsX1_after) := goodIn_app (goodIn_of _ (by decide +kernel)) ggX1_afterHeight_X1_after
theorem dX1_afterHeight_0 : decode cX1_afterHeight 0 = .ok (.iload_n 2, 1) := by decide +kernel
theorem dX1_afterHeight_1 : decode cX1_afterHeight 1 = .ok (.aload_n 0, 1) := by decide +kernel
theorem dX1_afterHeight_2 : decode cX1_afterHeight 2 = .ok (.iload_n 1, 1) := by decide +kernel
theorem dX1_afterHeight_3 : decode cX1_afterHeight 3 = .ok (.aload_n 0, 1) := by decide +kernel
theorem dX1_afterHeight_4 : decode cX1_afterHeight 4 = .ok (.iload_n 1, 1) := by decide +kernel
theorem dX1_afterHeight_5 : decode cX1_afterHeight 5 = .ok (.iload_n 3, 1) := by decide +kernel
theorem dX1_afterHeight_6 : decode cX1_afterHeight 6 = .ok (.invokevirtual 65, 3) := by decide +kernel
theorem dX1_afterHeight_9 : decode cX1_afterHeight 9 = .ok (.invokevirtual 69, 3) := by decide +kernel
theorem dX1_afterHeight_12 : decode cX1_afterHeight 12 = .ok (.ior, 1) := by decide +kernel
theorem dX1_afterHeight_13 : decode cX1_afterHeight 13 = .ok (.aload_n 0, 1) := by decide +kernel
theorem dX1_afterHeight_14 : decode cX1_afterHeight 14 = .ok (.iload_n 1, 1) := by decide +kernel
theorem dX1_afterHeight_15 : decode cX1_afterHeight 15 = .ok (.invokevirtual 72, 3) := by decide +kernel
theorem dX1_afterHeight_18 : decode cX1_afterHeight 18 = .ok (.invokestatic 79, 3) := by decide +kernel
theorem dX1_afterHeight_21 : decode cX1_afterHeight 21 = .ok (.ireturn, 1) := by decide +kernel
set_option maxRecDepth 20000 in
theorem ggX1_linesMet_X2_x : GoodIn wsX1_linesMet wsX2_x := goodIn_r _ [6, 7, 18, 19, 20, 21, 22] (by decide +kernel) (by decide +kernel)
set_option maxRecDepth 20000 in
theorem gX1_linesMet_X2_x : GoodIn wsX1_linesMet (wsV RX1 133 RX2 yX2_x wsX2_x) := goodIn_app (goodIn_of _ (by decide +kernel)) ggX1_linesMet_X2_x
theorem dX1_linesMet_0 : decode cX1_linesMet 0 = .ok (.iload_n 2, 1) := by decide +kernel
theorem dX1_linesMet_1 : decode cX1_linesMet 1 = .ok (.iconst 1, 1) := by decide +kernel
theorem dX1_linesMet_2 : decode cX1_linesMet 2 = .ok (.iand, 1) := by decide +kernel
theorem dX1_linesMet_3 : decode cX1_linesMet 3 = .ok (.ifCond .eq 16, 3) := by decide +kernel
theorem dX1_linesMet_6 : decode cX1_linesMet 6 = .ok (.iconst 2, 1) := by decide +kernel
theorem dX1_linesMet_7 : decode cX1_linesMet 7 = .ok (.aload_n 0, 1) := by decide +kernel
theorem dX1_linesMet_8 : decode cX1_linesMet 8 = .ok (.getfield 39, 3) := by decide +kernel
theorem dX1_linesMet_11 : decode cX1_linesMet 11 = .ok (.iload_n 1, 1) := by decide +kernel
theorem dX1_linesMet_12 : decode cX1_linesMet 12 = .ok (.invokevirtual 133, 3) := by decide +kernel
theorem dX1_linesMet_15 : decode cX1_linesMet 15 = .ok (.ishl, 1) := by decide +kernel
theorem dX1_linesMet_16 : decode cX1_linesMet 16 = .ok (.goto 4, 3) := by decide +kernel
theorem dX1_linesMet_19 : decode cX1_linesMet 19 = .ok (.iconst 0, 1) := by decide +kernel
theorem dX1_linesMet_20 : decode cX1_linesMet 20 = .ok (.iload_n 2, 1) := by decide +kernel
theorem dX1_linesMet_21 : decode cX1_linesMet 21 = .ok (.iconst 2, 1) := by decide +kernel
theorem dX1_linesMet_22 : decode cX1_linesMet 22 = .ok (.iand, 1) := by decide +kernel
theorem dX1_linesMet_23 : decode cX1_linesMet 23 = .ok (.ifCond .eq 7, 3) := by decide +kernel
theorem dX1_linesMet_26 : decode cX1_linesMet 26 = .ok (.iconst 1, 1) := by decide +kernel
theorem dX1_linesMet_27 : decode cX1_linesMet 27 = .ok (.goto 4, 3) := by decide +kernel
theorem dX1_linesMet_30 : decode cX1_linesMet 30 = .ok (.iconst 0, 1) := by decide +kernel
theorem dX1_linesMet_31 : decode cX1_linesMet 31 = .ok (.ior, 1) := by decide +kernel
theorem dX1_linesMet_32 : decode cX1_linesMet 32 = .ok (.ireturn, 1) := by decide +kernel
set_option maxRecDepth 20000 in
theorem ggX1_endsRow_X2_x : GoodIn wsX1_endsRow wsX2_x := goodIn_r _ [6, 7, 24, 25, 26, 27, 28] (by decide +kernel) (by decide +kernel)
set_option maxRecDepth 20000 in
theorem gX1_endsRow_X2_x : GoodIn wsX1_endsRow (wsV RX1 133 RX2 yX2_x wsX2_x) := goodIn_app (goodIn_of _ (by decide +kernel)) ggX1_endsRow_X2_x
set_option maxRecDepth 20000 in
theorem ggX1_endsRow_X2_lines : GoodIn wsX1_endsRow wsX2_lines := goodIn_r _ [11, 12, 13, 24, 25, 26, 27, 28] (by decide +kernel) (by decide +kernel)
set_option maxRecDepth 20000 in
theorem gX1_endsRow_X2_lines : GoodIn wsX1_endsRow (wsV RX1 167 RX2 yX2_lines wsX2_lines) := goodIn_app (goodIn_of _ (by decide +kernel)) ggX1_endsRow_X2_lines
theorem dX1_endsRow_0 : decode cX1_endsRow 0 = .ok (.aload_n 0, 1) := by decide +kernel
theorem dX1_endsRow_1 : decode cX1_endsRow 1 = .ok (.getfield 39, 3) := by decide +kernel
theorem dX1_endsRow_4 : decode cX1_endsRow 4 = .ok (.iload_n 1, 1) := by decide +kernel
theorem dX1_endsRow_5 : decode cX1_endsRow 5 = .ok (.invokevirtual 133, 3) := by decide +kernel
theorem dX1_endsRow_8 : decode cX1_endsRow 8 = .ok (.aload_n 0, 1) := by decide +kernel
theorem dX1_endsRow_9 : decode cX1_endsRow 9 = .ok (.getfield 39, 3) := by decide +kernel
theorem dX1_endsRow_12 : decode cX1_endsRow 12 = .ok (.iconst 1, 1) := by decide +kernel
theorem dX1_endsRow_13 : decode cX1_endsRow 13 = .ok (.invokevirtual 167, 3) := by decide +kernel
theorem dX1_endsRow_16 : decode cX1_endsRow 16 = .ok (.iconst 1, 1) := by decide +kernel
theorem dX1_endsRow_17 : decode cX1_endsRow 17 = .ok (.isub, 1) := by decide +kernel
theorem dX1_endsRow_18 : decode cX1_endsRow 18 = .ok (.if_icmp .ne 7, 3) := by decide +kernel
theorem dX1_endsRow_21 : decode cX1_endsRow 21 = .ok (.iconst 1, 1) := by decide +kernel
theorem dX1_endsRow_22 : decode cX1_endsRow 22 = .ok (.goto 4, 3) := by decide +kernel
theorem dX1_endsRow_25 : decode cX1_endsRow 25 = .ok (.iconst 0, 1) := by decide +kernel
theorem dX1_endsRow_26 : decode cX1_endsRow 26 = .ok (.ireturn, 1) := by decide +kernel
set_option maxRecDepth 20000 in
theorem ggX1_kindOf_X1_has : GoodIn wsX1_kindOf wsX1_has := goodIn_r _ [6] (by decide +kernel) (by decide +kernel)
set_option maxRecDepth 20000 in
theorem gX1_kindOf_X1_has : GoodIn wsX1_kindOf (va_wsS RX1 61 yX1_has wsX1_has) := goodIn_app (goodIn_of _ (by decide +kernel)) ggX1_kindOf_X1_has
theorem dX1_kindOf_0 : decode cX1_kindOf 0 = .ok (.aload_n 0, 1) := by decide +kernel
theorem dX1_kindOf_1 : decode cX1_kindOf 1 = .ok (.getfield 15, 3) := by decide +kernel
theorem dX1_kindOf_4 : decode cX1_kindOf 4 = .ok (.iload_n 1, 1) := by decide +kernel
theorem dX1_kindOf_5 : decode cX1_kindOf 5 = .ok (.iaload, 1) := by decide +kernel
theorem dX1_kindOf_6 : decode cX1_kindOf 6 = .ok (.iload_n 2, 1) := by decide +kernel
theorem dX1_kindOf_7 : decode cX1_kindOf 7 = .ok (.invokestatic 61, 3) := by decide +kernel
theorem dX1_kindOf_10 : decode cX1_kindOf 10 = .ok (.ifCond .eq 7, 3) := by decide +kernel
theorem dX1_kindOf_13 : decode cX1_kindOf 13 = .ok (.iconst 1, 1) := by decide +kernel
theorem dX1_kindOf_14 : decode cX1_kindOf 14 = .ok (.goto 4, 3) := by decide +kernel
theorem dX1_kindOf_17 : decode cX1_kindOf 17 = .ok (.iconst 0, 1) := by decide +kernel
theorem dX1_kindOf_18 : decode cX1_kindOf 18 = .ok (.aload_n 0, 1) := by decide +kernel
theorem dX1_kindOf_19 : decode cX1_kindOf 19 = .ok (.getfield 18, 3) := by decide +kernel
theorem dX1_kindOf_22 : decode cX1_kindOf 22 = .ok (.iload_n 1, 1) := by decide +kernel
theorem dX1_kindOf_23 : decode cX1_kindOf 23 = .ok (.iaload, 1) := by decide +kernel
theorem dX1_kindOf_24 : decode cX1_kindOf 24 = .ok (.iload_n 2, 1) := by decide +kernel
theorem dX1_kindOf_25 : decode cX1_kindOf 25 = .ok (.invokestatic 61, 3) := by decide +kernel
theorem dX1_kindOf_28 : decode cX1_kindOf 28 = .ok (.ifCond .eq 7, 3) := by decide +kernel
theorem dX1_kindOf_31 : decode cX1_kindOf 31 = .ok (.iconst 2, 1) := by decide +kernel
theorem dX1_kindOf_32 : decode cX1_kindOf 32 = .ok (.goto 4, 3) := by decide +kernel
theorem dX1_kindOf_35 : decode cX1_kindOf 35 = .ok (.iconst 0, 1) := by decide +kernel
theorem dX1_kindOf_36 : decode cX1_kindOf 36 = .ok (.ior, 1) := by decide +kernel
theorem dX1_kindOf_37 : decode cX1_kindOf 37 = .ok (.ireturn, 1) := by decide +kernel
theorem dX1_heightsOf_0 : decode cX1_heightsOf 0 = .ok (.aload_n 0, 1) := by decide +kernel
theorem dX1_heightsOf_1 : decode cX1_heightsOf 1 = .ok (.getfield 9, 3) := by decide +kernel
theorem dX1_heightsOf_4 : decode cX1_heightsOf 4 = .ok (.iload_n 1, 1) := by decide +kernel
theorem dX1_heightsOf_5 : decode cX1_heightsOf 5 = .ok (.iaload, 1) := by decide +kernel
theorem dX1_heightsOf_6 : decode cX1_heightsOf 6 = .ok (.iload_n 2, 1) := by decide +kernel
theorem dX1_heightsOf_7 : decode cX1_heightsOf 7 = .ok (.iconst 1, 1) := by decide +kernel
theorem dX1_heightsOf_8 : decode cX1_heightsOf 8 = .ok (.iand, 1) := by decide +kernel
theorem dX1_heightsOf_9 : decode cX1_heightsOf 9 = .ok (.ifCond .eq 12, 3) := by decide +kernel
theorem dX1_heightsOf_12 : decode cX1_heightsOf 12 = .ok (.aload_n 0, 1) := by decide +kernel
theorem dX1_heightsOf_13 : decode cX1_heightsOf 13 = .ok (.getfield 15, 3) := by decide +kernel
theorem dX1_heightsOf_16 : decode cX1_heightsOf 16 = .ok (.iload_n 1, 1) := by decide +kernel
theorem dX1_heightsOf_17 : decode cX1_heightsOf 17 = .ok (.iaload, 1) := by decide +kernel
theorem dX1_heightsOf_18 : decode cX1_heightsOf 18 = .ok (.goto 11, 3) := by decide +kernel
theorem dX1_heightsOf_21 : decode cX1_heightsOf 21 = .ok (.aload_n 0, 1) := by decide +kernel
theorem dX1_heightsOf_22 : decode cX1_heightsOf 22 = .ok (.getfield 15, 3) := by decide +kernel
theorem dX1_heightsOf_25 : decode cX1_heightsOf 25 = .ok (.iload_n 1, 1) := by decide +kernel
theorem dX1_heightsOf_26 : decode cX1_heightsOf 26 = .ok (.iaload, 1) := by decide +kernel
theorem dX1_heightsOf_27 : decode cX1_heightsOf 27 = .ok (.iconst (-1), 1) := by decide +kernel
theorem dX1_heightsOf_28 : decode cX1_heightsOf 28 = .ok (.ixor, 1) := by decide +kernel
theorem dX1_heightsOf_29 : decode cX1_heightsOf 29 = .ok (.iand, 1) := by decide +kernel
theorem dX1_heightsOf_30 : decode cX1_heightsOf 30 = .ok (.iload_n 2, 1) := by decide +kernel
theorem dX1_heightsOf_31 : decode cX1_heightsOf 31 = .ok (.iconst 2, 1) := by decide +kernel
theorem dX1_heightsOf_32 : decode cX1_heightsOf 32 = .ok (.iand, 1) := by decide +kernel
theorem dX1_heightsOf_33 : decode cX1_heightsOf 33 = .ok (.ifCond .eq 12, 3) := by decide +kernel
theorem dX1_heightsOf_36 : decode cX1_heightsOf 36 = .ok (.aload_n 0, 1) := by decide +kernel
theorem dX1_heightsOf_37 : decode cX1_heightsOf 37 = .ok (.getfield 18, 3) := by decide +kernel
theorem dX1_heightsOf_40 : decode cX1_heightsOf 40 = .ok (.iload_n 1, 1) := by decide +kernel
theorem dX1_heightsOf_41 : decode cX1_heightsOf 41 = .ok (.iaload, 1) := by decide +kernel
theorem dX1_heightsOf_42 : decode cX1_heightsOf 42 = .ok (.goto 11, 3) := by decide +kernel
theorem dX1_heightsOf_45 : decode cX1_heightsOf 45 = .ok (.aload_n 0, 1) := by decide +kernel
theorem dX1_heightsOf_46 : decode cX1_heightsOf 46 = .ok (.getfield 18, 3) := by decide +kernel
theorem dX1_heightsOf_49 : decode cX1_heightsOf 49 = .ok (.iload_n 1, 1) := by decide +kernel
theorem dX1_heightsOf_50 : decode cX1_heightsOf 50 = .ok (.iaload, 1) := by decide +kernel
theorem dX1_heightsOf_51 : decode cX1_heightsOf 51 = .ok (.iconst (-1), 1) := by decide +kernel
theorem dX1_heightsOf_52 : decode cX1_heightsOf 52 = .ok (.ixor, 1) := by decide +kernel
theorem dX1_heightsOf_53 : decode cX1_heightsOf 53 = .ok (.iand, 1) := by decide +kernel
theorem dX1_heightsOf_54 : decode cX1_heightsOf 54 = .ok (.ireturn, 1) := by decide +kernel
theorem dX1_has_0 : decode cX1_has 0 = .ok (.iload_n 0, 1) := by decide +kernel
theorem dX1_has_1 : decode cX1_has 1 = .ok (.iload_n 1, 1) := by decide +kernel
theorem dX1_has_2 : decode cX1_has 2 = .ok (.ishr, 1) := by decide +kernel
theorem dX1_has_3 : decode cX1_has 3 = .ok (.iconst 1, 1) := by decide +kernel
theorem dX1_has_4 : decode cX1_has 4 = .ok (.iand, 1) := by decide +kernel
theorem dX1_has_5 : decode cX1_has 5 = .ok (.ifCond .eq 7, 3) := by decide +kernel
theorem dX1_has_8 : decode cX1_has 8 = .ok (.iconst 1, 1) := by decide +kernel
theorem dX1_has_9 : decode cX1_has 9 = .ok (.goto 4, 3) := by decide +kernel
theorem dX1_has_12 : decode cX1_has 12 = .ok (.iconst 0, 1) := by decide +kernel
theorem dX1_has_13 : decode cX1_has 13 = .ok (.ireturn, 1) := by decide +kernel
theorem dX1_meeting_0 : decode cX1_meeting 0 = .ok (.iload_n 0, 1) := by decide +kernel
theorem dX1_meeting_1 : decode cX1_meeting 1 = .ok (.bipush (-9), 2) := by decide +kernel
theorem dX1_meeting_3 : decode cX1_meeting 3 = .ok (.if_icmp .ne 8, 3) := by decide +kernel
theorem dX1_meeting_6 : decode cX1_meeting 6 = .ok (.bipush 31, 2) := by decide +kernel
theorem dX1_meeting_8 : decode cX1_meeting 8 = .ok (.goto 6, 3) := by decide +kernel
theorem dX1_meeting_11 : decode cX1_meeting 11 = .ok (.iconst 1, 1) := by decide +kernel
theorem dX1_meeting_12 : decode cX1_meeting 12 = .ok (.iload_n 0, 1) := by decide +kernel
theorem dX1_meeting_13 : decode cX1_meeting 13 = .ok (.ishl, 1) := by decide +kernel
theorem dX1_meeting_14 : decode cX1_meeting 14 = .ok (.ireturn, 1) := by decide +kernel
theorem dX1_upTo_0 : decode cX1_upTo 0 = .ok (.iload_n 0, 1) := by decide +kernel
theorem dX1_upTo_1 : decode cX1_upTo 1 = .ok (.bipush (-9), 2) := by decide +kernel
theorem dX1_upTo_3 : decode cX1_upTo 3 = .ok (.if_icmp .ne 8, 3) := by decide +kernel
theorem dX1_upTo_6 : decode cX1_upTo 6 = .ok (.bipush 31, 2) := by decide +kernel
theorem dX1_upTo_8 : decode cX1_upTo 8 = .ok (.goto 8, 3) := by decide +kernel
theorem dX1_upTo_11 : decode cX1_upTo 11 = .ok (.iconst 2, 1) := by decide +kernel
theorem dX1_upTo_12 : decode cX1_upTo 12 = .ok (.iload_n 0, 1) := by decide +kernel
theorem dX1_upTo_13 : decode cX1_upTo 13 = .ok (.ishl, 1) := by decide +kernel
theorem dX1_upTo_14 : decode cX1_upTo 14 = .ok (.iconst 1, 1) := by decide +kernel
theorem dX1_upTo_15 : decode cX1_upTo 15 = .ok (.isub, 1) := by decide +kernel
theorem dX1_upTo_16 : decode cX1_upTo 16 = .ok (.ireturn, 1) := by decide +kernel
theorem dX1_underTop_0 : decode cX1_underTop 0 = .ok (.iload_n 0, 1) := by decide +kernel
theorem dX1_underTop_1 : decode cX1_underTop 1 = .ok (.bipush (-9), 2) := by decide +kernel
theorem dX1_underTop_3 : decode cX1_underTop 3 = .ok (.if_icmp .ne 6, 3) := by decide +kernel
theorem dX1_underTop_6 : decode cX1_underTop 6 = .ok (.bipush 31, 2) := by decide +kernel
theorem dX1_underTop_8 : decode cX1_underTop 8 = .ok (.ireturn, 1) := by decide +kernel
theorem dX1_underTop_9 : decode cX1_underTop 9 = .ok (.iload_n 0, 1) := by decide +kernel
theorem dX1_underTop_10 : decode cX1_underTop 10 = .ok (.ifCond .ne 7, 3) := by decide +kernel
theorem dX1_underTop_13 : decode cX1_underTop 13 = .ok (.iconst 1, 1) := by decide +kernel
theorem dX1_underTop_14 : decode cX1_underTop 14 = .ok (.goto 5, 3) := by decide +kernel
theorem dX1_underTop_17 : decode cX1_underTop 17 = .ok (.bipush 30, 2) := by decide +kernel
theorem dX1_underTop_19 : decode cX1_underTop 19 = .ok (.ireturn, 1) := by decide +kernel
set_option maxRecDepth 20000 in
theorem ggX1_highestOf_J6_numberOfLeadingZeros_0f7a4 : GoodIn wsX1_highestOf wsJ6_numberOfLeadingZeros_0f7a4 := goodIn_r _ [4, 5] (by decide +kernel) (by decide +kernel)
set_option maxRecDepth 20000 in
theorem gX1_highestOf_J6_numberOfLeadingZeros_0f7a4 : GoodIn wsX1_highestOf (va_wsS RX1 171 yJ6_numberOfLeadingZeros_0f7a4 wsJ6_numberOfLeadingZeros_0f7a4) := goodIn_app (goodIn_of _ (by decide +kernel)) ggX1_highestOf_J6_numberOfLeadingZeros_0f7a4
theorem dX1_highestOf_0 : decode cX1_highestOf 0 = .ok (.iload_n 0, 1) := by decide +kernel
theorem dX1_highestOf_1 : decode cX1_highestOf 1 = .ok (.ifCond .ne 7, 3) := by decide +kernel
theorem dX1_highestOf_4 : decode cX1_highestOf 4 = .ok (.iconst 0, 1) := by decide +kernel
theorem dX1_highestOf_5 : decode cX1_highestOf 5 = .ok (.goto 10, 3) := by decide +kernel
theorem dX1_highestOf_8 : decode cX1_highestOf 8 = .ok (.bipush 31, 2) := by decide +kernel
theorem dX1_highestOf_10 : decode cX1_highestOf 10 = .ok (.iload_n 0, 1) := by decide +kernel
theorem dX1_highestOf_11 : decode cX1_highestOf 11 = .ok (.invokestatic 171, 3) := by decide +kernel
theorem dX1_highestOf_14 : decode cX1_highestOf 14 = .ok (.isub, 1) := by decide +kernel
theorem dX1_highestOf_15 : decode cX1_highestOf 15 = .ok (.ireturn, 1) := by decide +kernel
