theorem dX9_place_37 : decode cX9_place 37 = .ok (.aload_n 0, 1) := by decide +kernel
theorem dX9_place_38 : decode cX9_place 38 = .ok (.invokevirtual 97, 3) := by decide +kernel
theorem dX9_place_41 : decode cX9_place 41 = .ok (.if_icmp .ge 99, 3) := by decide +kernel
theorem dX9_place_44 : decode cX9_place 44 = .ok (.iconst 0, 1) := by decide +kernel
theorem dX9_place_45 : decode cX9_place 45 = .ok (.istore 6, 2) := by decide +kernel
theorem dX9_place_47 : decode cX9_place 47 = .ok (.iload 6, 2) := by decide +kernel
theorem dX9_place_49 : decode cX9_place 49 = .ok (.aload_n 0, 1) := by decide +kernel
theorem dX9_place_50 : decode cX9_place 50 = .ok (.getfield 7, 3) := by decide +kernel
theorem dX9_place_53 : decode cX9_place 53 = .ok (.bipush 25, 2) := by decide +kernel
theorem dX9_place_55 : decode cX9_place 55 = .ok (.iload_n 1, 1) := by decide +kernel
theorem dX9_place_56 : decode cX9_place 56 = .ok (.imul, 1) := by decide +kernel
theorem dX9_place_57 : decode cX9_place 57 = .ok (.iload 5, 2) := by decide +kernel
theorem dX9_place_59 : decode cX9_place 59 = .ok (.iadd, 1) := by decide +kernel
theorem dX9_place_60 : decode cX9_place 60 = .ok (.iaload, 1) := by decide +kernel
theorem dX9_place_61 : decode cX9_place 61 = .ok (.if_icmp .ge 51, 3) := by decide +kernel
theorem dX9_place_64 : decode cX9_place 64 = .ok (.aload_n 0, 1) := by decide +kernel
theorem dX9_place_65 : decode cX9_place 65 = .ok (.iload 5, 2) := by decide +kernel
theorem dX9_place_67 : decode cX9_place 67 = .ok (.iload 4, 2) := by decide +kernel
theorem dX9_place_69 : decode cX9_place 69 = .ok (.iload 6, 2) := by decide +kernel
theorem dX9_place_71 : decode cX9_place 71 = .ok (.invokevirtual 152, 3) := by decide +kernel
theorem dX9_place_74 : decode cX9_place 74 = .ok (.istore 7, 2) := by decide +kernel
theorem dX9_place_76 : decode cX9_place 76 = .ok (.lload_n 2, 1) := by decide +kernel
theorem dX9_place_77 : decode cX9_place 77 = .ok (.iload 7, 2) := by decide +kernel
theorem dX9_place_79 : decode cX9_place 79 = .ok (.bipush (-9), 2) := by decide +kernel
theorem dX9_place_81 : decode cX9_place 81 = .ok (.if_icmp .ne 7, 3) := by decide +kernel
theorem dX9_place_84 : decode cX9_place 84 = .ok (.lconst 0, 1) := by decide +kernel
theorem dX9_place_85 : decode cX9_place 85 = .ok (.goto 19, 3) := by decide +kernel
theorem dX9_place_88 : decode cX9_place 88 = .ok (.aload_n 0, 1) := by decide +kernel
theorem dX9_place_89 : decode cX9_place 89 = .ok (.getfield 31, 3) := by decide +kernel
theorem dX9_place_92 : decode cX9_place 92 = .ok (.bipush 64, 2) := by decide +kernel
theorem dX9_place_94 : decode cX9_place 94 = .ok (.iload 5, 2) := by decide +kernel
theorem dX9_place_96 : decode cX9_place 96 = .ok (.imul, 1) := by decide +kernel
theorem dX9_place_97 : decode cX9_place 97 = .ok (.bipush 64, 2) := by decide +kernel
theorem dX9_place_99 : decode cX9_place 99 = .ok (.iadd, 1) := by decide +kernel
theorem dX9_place_100 : decode cX9_place 100 = .ok (.iload 7, 2) := by decide +kernel
theorem dX9_place_102 : decode cX9_place 102 = .ok (.iadd, 1) := by decide +kernel
theorem dX9_place_103 : decode cX9_place 103 = .ok (.laload, 1) := by decide +kernel
theorem dX9_place_104 : decode cX9_place 104 = .ok (.ladd, 1) := by decide +kernel
theorem dX9_place_105 : decode cX9_place 105 = .ok (.lstore_n 2, 1) := by decide +kernel
theorem dX9_place_106 : decode cX9_place 106 = .ok (.iinc 6 1, 3) := by decide +kernel
theorem dX9_place_109 : decode cX9_place 109 = .ok (.goto (-62), 3) := by decide +kernel
theorem dX9_place_112 : decode cX9_place 112 = .ok (.aload_n 0, 1) := by decide +kernel
theorem dX9_place_113 : decode cX9_place 113 = .ok (.iload 5, 2) := by decide +kernel
theorem dX9_place_115 : decode cX9_place 115 = .ok (.iload 4, 2) := by decide +kernel
theorem dX9_place_117 : decode cX9_place 117 = .ok (.aload_n 0, 1) := by decide +kernel
theorem dX9_place_118 : decode cX9_place 118 = .ok (.getfield 7, 3) := by decide +kernel
theorem dX9_place_121 : decode cX9_place 121 = .ok (.bipush 25, 2) := by decide +kernel
theorem dX9_place_123 : decode cX9_place 123 = .ok (.iload_n 1, 1) := by decide +kernel
theorem dX9_place_124 : decode cX9_place 124 = .ok (.imul, 1) := by decide +kernel
theorem dX9_place_125 : decode cX9_place 125 = .ok (.iload 5, 2) := by decide +kernel
theorem dX9_place_127 : decode cX9_place 127 = .ok (.iadd, 1) := by decide +kernel
theorem dX9_place_128 : decode cX9_place 128 = .ok (.iaload, 1) := by decide +kernel
theorem dX9_place_129 : decode cX9_place 129 = .ok (.invokevirtual 152, 3) := by decide +kernel
theorem dX9_place_132 : decode cX9_place 132 = .ok (.istore 4, 2) := by decide +kernel
theorem dX9_place_134 : decode cX9_place 134 = .ok (.iinc 5 1, 3) := by decide +kernel
theorem dX9_place_137 : decode cX9_place 137 = .ok (.goto (-102), 3) := by decide +kernel
theorem dX9_place_140 : decode cX9_place 140 = .ok (.lload_n 2, 1) := by decide +kernel
theorem dX9_place_141 : decode cX9_place 141 = .ok (.lreturn, 1) := by decide +kernel
set_option maxRecDepth 20000 in
theorem ggX9_tellSum_X9_isLine : GoodIn wsX9_tellSum wsX9_isLine := goodIn_r _ [8, 9, 10, 11, 12, 7, 13, 14, 15, 16, 17, 18, 19, 20, 21, 22, 23, 24, 25, 26, 27, 28, 29, 30, 31, 32, 33, 34, 35, 36, 37, 38, 39] (by decide +kernel) (by decide +kernel)
set_option maxRecDepth 20000 in
theorem gX9_tellSum_X9_isLine : GoodIn wsX9_tellSum (wsV RX9 124 RX9 yX9_isLine wsX9_isLine) := goodIn_app (goodIn_of _ (by decide +kernel)) ggX9_tellSum_X9_isLine
set_option maxRecDepth 20000 in
theorem ggX9_tellSum_X9_in : GoodIn wsX9_tellSum wsX9_in := goodIn_r _ [13] (by decide +kernel) (by decide +kernel)
set_option maxRecDepth 20000 in
theorem gX9_tellSum_X9_in : GoodIn wsX9_tellSum (va_wsS RX9 93 yX9_in wsX9_in) := goodIn_app (goodIn_of _ (by decide +kernel)) ggX9_tellSum_X9_in
theorem dX9_tellSum_0 : decode cX9_tellSum 0 = .ok (.aload_n 0, 1) := by decide +kernel
theorem dX9_tellSum_1 : decode cX9_tellSum 1 = .ok (.iload_n 1, 1) := by decide +kernel
theorem dX9_tellSum_2 : decode cX9_tellSum 2 = .ok (.iload_n 2, 1) := by decide +kernel
theorem dX9_tellSum_3 : decode cX9_tellSum 3 = .ok (.invokevirtual 124, 3) := by decide +kernel
theorem dX9_tellSum_6 : decode cX9_tellSum 6 = .ok (.ifCond .ne 5, 3) := by decide +kernel
theorem dX9_tellSum_9 : decode cX9_tellSum 9 = .ok (.iconst (-1), 1) := by decide +kernel
theorem dX9_tellSum_10 : decode cX9_tellSum 10 = .ok (.ireturn, 1) := by decide +kernel
theorem dX9_tellSum_11 : decode cX9_tellSum 11 = .ok (.iload_n 3, 1) := by decide +kernel
theorem dX9_tellSum_12 : decode cX9_tellSum 12 = .ok (.i2l, 1) := by decide +kernel
theorem dX9_tellSum_13 : decode cX9_tellSum 13 = .ok (.lconst 0, 1) := by decide +kernel
theorem dX9_tellSum_14 : decode cX9_tellSum 14 = .ok (.ldc2_w 169, 3) := by decide +kernel
theorem dX9_tellSum_17 : decode cX9_tellSum 17 = .ok (.invokestatic 93, 3) := by decide +kernel
theorem dX9_tellSum_20 : decode cX9_tellSum 20 = .ok (.ifCond .ne 6, 3) := by decide +kernel
theorem dX9_tellSum_23 : decode cX9_tellSum 23 = .ok (.bipush (-2), 2) := by decide +kernel
theorem dX9_tellSum_25 : decode cX9_tellSum 25 = .ok (.ireturn, 1) := by decide +kernel
theorem dX9_tellSum_26 : decode cX9_tellSum 26 = .ok (.iload_n 1, 1) := by decide +kernel
theorem dX9_tellSum_27 : decode cX9_tellSum 27 = .ok (.ifCond .eq 12, 3) := by decide +kernel
theorem dX9_tellSum_30 : decode cX9_tellSum 30 = .ok (.aload_n 0, 1) := by decide +kernel
theorem dX9_tellSum_31 : decode cX9_tellSum 31 = .ok (.getfield 22, 3) := by decide +kernel
theorem dX9_tellSum_34 : decode cX9_tellSum 34 = .ok (.iload_n 2, 1) := by decide +kernel
theorem dX9_tellSum_35 : decode cX9_tellSum 35 = .ok (.iaload, 1) := by decide +kernel
theorem dX9_tellSum_36 : decode cX9_tellSum 36 = .ok (.goto 9, 3) := by decide +kernel
theorem dX9_tellSum_39 : decode cX9_tellSum 39 = .ok (.aload_n 0, 1) := by decide +kernel
theorem dX9_tellSum_40 : decode cX9_tellSum 40 = .ok (.getfield 25, 3) := by decide +kernel
theorem dX9_tellSum_43 : decode cX9_tellSum 43 = .ok (.iload_n 2, 1) := by decide +kernel
theorem dX9_tellSum_44 : decode cX9_tellSum 44 = .ok (.iaload, 1) := by decide +kernel
theorem dX9_tellSum_45 : decode cX9_tellSum 45 = .ok (.istore 4, 2) := by decide +kernel
theorem dX9_tellSum_47 : decode cX9_tellSum 47 = .ok (.iload_n 1, 1) := by decide +kernel
theorem dX9_tellSum_48 : decode cX9_tellSum 48 = .ok (.ifCond .eq 13, 3) := by decide +kernel
theorem dX9_tellSum_51 : decode cX9_tellSum 51 = .ok (.aload_n 0, 1) := by decide +kernel
theorem dX9_tellSum_52 : decode cX9_tellSum 52 = .ok (.getfield 22, 3) := by decide +kernel
theorem dX9_tellSum_55 : decode cX9_tellSum 55 = .ok (.iload_n 2, 1) := by decide +kernel
theorem dX9_tellSum_56 : decode cX9_tellSum 56 = .ok (.iload_n 3, 1) := by decide +kernel
theorem dX9_tellSum_57 : decode cX9_tellSum 57 = .ok (.iastore, 1) := by decide +kernel
theorem dX9_tellSum_58 : decode cX9_tellSum 58 = .ok (.goto 10, 3) := by decide +kernel
theorem dX9_tellSum_61 : decode cX9_tellSum 61 = .ok (.aload_n 0, 1) := by decide +kernel
theorem dX9_tellSum_62 : decode cX9_tellSum 62 = .ok (.getfield 25, 3) := by decide +kernel
theorem dX9_tellSum_65 : decode cX9_tellSum 65 = .ok (.iload_n 2, 1) := by decide +kernel
theorem dX9_tellSum_66 : decode cX9_tellSum 66 = .ok (.iload_n 3, 1) := by decide +kernel
theorem dX9_tellSum_67 : decode cX9_tellSum 67 = .ok (.iastore, 1) := by decide +kernel
theorem dX9_tellSum_68 : decode cX9_tellSum 68 = .ok (.iload 4, 2) := by decide +kernel
theorem dX9_tellSum_70 : decode cX9_tellSum 70 = .ok (.ireturn, 1) := by decide +kernel
set_option maxRecDepth 20000 in
theorem ggX9_sumsAs_X9_isSlot : GoodIn wsX9_sumsAs wsX9_isSlot := goodIn_r _ [8, 9, 10, 11, 7, 12] (by decide +kernel) (by decide +kernel)
set_option maxRecDepth 20000 in
theorem gX9_sumsAs_X9_isSlot : GoodIn wsX9_sumsAs (va_wsS RX9 103 yX9_isSlot wsX9_isSlot) := goodIn_app (goodIn_of _ (by decide +kernel)) ggX9_sumsAs_X9_isSlot
set_option maxRecDepth 20000 in
theorem ggX9_sumsAs_X9_sumOf : GoodIn wsX9_sumsAs wsX9_sumOf := goodIn_r _ [16, 17, 18, 19, 20, 7, 21, 3, 1, 22, 23, 24, 25, 34, 35, 36, 37, 38, 39, 40, 41, 42, 43, 44, 45, 46, 47, 48, 49, 50, 51, 52, 53, 54, 55, 56, 57, 58, 59] (by decide +kernel) (by decide +kernel)
set_option maxRecDepth 20000 in
theorem gX9_sumsAs_X9_sumOf : GoodIn wsX9_sumsAs (wsV RX9 132 RX9 yX9_sumOf wsX9_sumOf) := goodIn_app (goodIn_of _ (by decide +kernel)) ggX9_sumsAs_X9_sumOf
set_option maxRecDepth 20000 in
theorem ggX9_sumsAs_X9_cubesOf : GoodIn wsX9_sumsAs wsX9_cubesOf := goodIn_r _ [29, 17, 30, 31, 32, 7, 33, 1, 3, 34, 35, 36, 37, 38, 39, 40, 41, 42, 43, 44, 45, 46, 47, 48, 49, 50, 51, 52, 53, 54, 55, 56, 57, 58, 59] (by decide +kernel) (by decide +kernel)
set_option maxRecDepth 20000 in
theorem gX9_sumsAs_X9_cubesOf : GoodIn wsX9_sumsAs (wsV RX9 112 RX9 yX9_cubesOf wsX9_cubesOf) := goodIn_app (goodIn_of _ (by decide +kernel)) ggX9_sumsAs_X9_cubesOf
theorem dX9_sumsAs_0 : decode cX9_sumsAs 0 = .ok (.iload_n 1, 1) := by decide +kernel
theorem dX9_sumsAs_1 : decode cX9_sumsAs 1 = .ok (.invokestatic 103, 3) := by decide +kernel
theorem dX9_sumsAs_4 : decode cX9_sumsAs 4 = .ok (.ifCond .ne 5, 3) := by decide +kernel
theorem dX9_sumsAs_7 : decode cX9_sumsAs 7 = .ok (.iconst (-1), 1) := by decide +kernel
theorem dX9_sumsAs_8 : decode cX9_sumsAs 8 = .ok (.ireturn, 1) := by decide +kernel
theorem dX9_sumsAs_9 : decode cX9_sumsAs 9 = .ok (.iconst 0, 1) := by decide +kernel
theorem dX9_sumsAs_10 : decode cX9_sumsAs 10 = .ok (.istore_n 2, 1) := by decide +kernel
theorem dX9_sumsAs_11 : decode cX9_sumsAs 11 = .ok (.iload_n 2, 1) := by decide +kernel
theorem dX9_sumsAs_12 : decode cX9_sumsAs 12 = .ok (.aload_n 0, 1) := by decide +kernel
theorem dX9_sumsAs_13 : decode cX9_sumsAs 13 = .ok (.getfield 85, 3) := by decide +kernel
theorem dX9_sumsAs_16 : decode cX9_sumsAs 16 = .ok (.if_icmp .ge 22, 3) := by decide +kernel
theorem dX9_sumsAs_19 : decode cX9_sumsAs 19 = .ok (.aload_n 0, 1) := by decide +kernel
theorem dX9_sumsAs_20 : decode cX9_sumsAs 20 = .ok (.getfield 22, 3) := by decide +kernel
theorem dX9_sumsAs_23 : decode cX9_sumsAs 23 = .ok (.iload_n 2, 1) := by decide +kernel
theorem dX9_sumsAs_24 : decode cX9_sumsAs 24 = .ok (.aload_n 0, 1) := by decide +kernel
theorem dX9_sumsAs_25 : decode cX9_sumsAs 25 = .ok (.iload_n 1, 1) := by decide +kernel
theorem dX9_sumsAs_26 : decode cX9_sumsAs 26 = .ok (.iconst 1, 1) := by decide +kernel
theorem dX9_sumsAs_27 : decode cX9_sumsAs 27 = .ok (.iload_n 2, 1) := by decide +kernel
theorem dX9_sumsAs_28 : decode cX9_sumsAs 28 = .ok (.invokevirtual 132, 3) := by decide +kernel
theorem dX9_sumsAs_31 : decode cX9_sumsAs 31 = .ok (.iastore, 1) := by decide +kernel
theorem dX9_sumsAs_32 : decode cX9_sumsAs 32 = .ok (.iinc 2 1, 3) := by decide +kernel
theorem dX9_sumsAs_35 : decode cX9_sumsAs 35 = .ok (.goto (-24), 3) := by decide +kernel
theorem dX9_sumsAs_38 : decode cX9_sumsAs 38 = .ok (.iconst 0, 1) := by decide +kernel
theorem dX9_sumsAs_39 : decode cX9_sumsAs 39 = .ok (.istore_n 2, 1) := by decide +kernel
theorem dX9_sumsAs_40 : decode cX9_sumsAs 40 = .ok (.iload_n 2, 1) := by decide +kernel
theorem dX9_sumsAs_41 : decode cX9_sumsAs 41 = .ok (.aload_n 0, 1) := by decide +kernel
theorem dX9_sumsAs_42 : decode cX9_sumsAs 42 = .ok (.getfield 88, 3) := by decide +kernel
theorem dX9_sumsAs_45 : decode cX9_sumsAs 45 = .ok (.if_icmp .ge 22, 3) := by decide +kernel
theorem dX9_sumsAs_48 : decode cX9_sumsAs 48 = .ok (.aload_n 0, 1) := by decide +kernel
theorem dX9_sumsAs_49 : decode cX9_sumsAs 49 = .ok (.getfield 25, 3) := by decide +kernel
theorem dX9_sumsAs_52 : decode cX9_sumsAs 52 = .ok (.iload_n 2, 1) := by decide +kernel
theorem dX9_sumsAs_53 : decode cX9_sumsAs 53 = .ok (.aload_n 0, 1) := by decide +kernel
theorem dX9_sumsAs_54 : decode cX9_sumsAs 54 = .ok (.iload_n 1, 1) := by decide +kernel
theorem dX9_sumsAs_55 : decode cX9_sumsAs 55 = .ok (.iconst 0, 1) := by decide +kernel
theorem dX9_sumsAs_56 : decode cX9_sumsAs 56 = .ok (.iload_n 2, 1) := by decide +kernel
theorem dX9_sumsAs_57 : decode cX9_sumsAs 57 = .ok (.invokevirtual 132, 3) := by decide +kernel
theorem dX9_sumsAs_60 : decode cX9_sumsAs 60 = .ok (.iastore, 1) := by decide +kernel
theorem dX9_sumsAs_61 : decode cX9_sumsAs 61 = .ok (.iinc 2 1, 3) := by decide +kernel
theorem dX9_sumsAs_64 : decode cX9_sumsAs 64 = .ok (.goto (-24), 3) := by decide +kernel
theorem dX9_sumsAs_67 : decode cX9_sumsAs 67 = .ok (.aload_n 0, 1) := by decide +kernel
theorem dX9_sumsAs_68 : decode cX9_sumsAs 68 = .ok (.iload_n 1, 1) := by decide +kernel
theorem dX9_sumsAs_69 : decode cX9_sumsAs 69 = .ok (.invokevirtual 112, 3) := by decide +kernel
theorem dX9_sumsAs_72 : decode cX9_sumsAs 72 = .ok (.ireturn, 1) := by decide +kernel
set_option maxRecDepth 20000 in
theorem ggX9_layEnds_X9_cells : GoodIn wsX9_layEnds wsX9_cells := goodIn_r _ [8, 9, 10, 11, 12, 13, 14, 15, 16, 17, 18, 19, 20, 21, 22, 23, 24, 25, 26, 27, 28, 29, 30, 31, 32, 33, 34, 35, 36] (by decide +kernel) (by decide +kernel)
set_option maxRecDepth 20000 in
theorem gX9_layEnds_X9_cells : GoodIn wsX9_layEnds (wsV RX9 97 RX9 yX9_cells wsX9_cells) := goodIn_app (goodIn_of _ (by decide +kernel)) ggX9_layEnds_X9_cells
theorem dX9_layEnds_0 : decode cX9_layEnds 0 = .ok (.iconst 0, 1) := by decide +kernel
theorem dX9_layEnds_1 : decode cX9_layEnds 1 = .ok (.istore_n 1, 1) := by decide +kernel
theorem dX9_layEnds_2 : decode cX9_layEnds 2 = .ok (.iload_n 1, 1) := by decide +kernel
theorem dX9_layEnds_3 : decode cX9_layEnds 3 = .ok (.aload_n 0, 1) := by decide +kernel
theorem dX9_layEnds_4 : decode cX9_layEnds 4 = .ok (.invokevirtual 97, 3) := by decide +kernel
theorem dX9_layEnds_7 : decode cX9_layEnds 7 = .ok (.if_icmp .ge 50, 3) := by decide +kernel
theorem dX9_layEnds_10 : decode cX9_layEnds 10 = .ok (.aload_n 0, 1) := by decide +kernel
theorem dX9_layEnds_11 : decode cX9_layEnds 11 = .ok (.getfield 42, 3) := by decide +kernel
theorem dX9_layEnds_14 : decode cX9_layEnds 14 = .ok (.iload_n 1, 1) := by decide +kernel
theorem dX9_layEnds_15 : decode cX9_layEnds 15 = .ok (.aload_n 0, 1) := by decide +kernel
theorem dX9_layEnds_16 : decode cX9_layEnds 16 = .ok (.getfield 19, 3) := by decide +kernel
theorem dX9_layEnds_19 : decode cX9_layEnds 19 = .ok (.iload_n 1, 1) := by decide +kernel
theorem dX9_layEnds_20 : decode cX9_layEnds 20 = .ok (.iaload, 1) := by decide +kernel
theorem dX9_layEnds_21 : decode cX9_layEnds 21 = .ok (.iconst 1, 1) := by decide +kernel
theorem dX9_layEnds_22 : decode cX9_layEnds 22 = .ok (.if_icmp .ne 7, 3) := by decide +kernel
theorem dX9_layEnds_25 : decode cX9_layEnds 25 = .ok (.iconst 1, 1) := by decide +kernel
theorem dX9_layEnds_26 : decode cX9_layEnds 26 = .ok (.goto 4, 3) := by decide +kernel
theorem dX9_layEnds_29 : decode cX9_layEnds 29 = .ok (.iconst 0, 1) := by decide +kernel
theorem dX9_layEnds_30 : decode cX9_layEnds 30 = .ok (.iastore, 1) := by decide +kernel
theorem dX9_layEnds_31 : decode cX9_layEnds 31 = .ok (.aload_n 0, 1) := by decide +kernel
theorem dX9_layEnds_32 : decode cX9_layEnds 32 = .ok (.getfield 45, 3) := by decide +kernel
theorem dX9_layEnds_35 : decode cX9_layEnds 35 = .ok (.iload_n 1, 1) := by decide +kernel
theorem dX9_layEnds_36 : decode cX9_layEnds 36 = .ok (.aload_n 0, 1) := by decide +kernel
theorem dX9_layEnds_37 : decode cX9_layEnds 37 = .ok (.getfield 19, 3) := by decide +kernel
theorem dX9_layEnds_40 : decode cX9_layEnds 40 = .ok (.iload_n 1, 1) := by decide +kernel
theorem dX9_layEnds_41 : decode cX9_layEnds 41 = .ok (.iaload, 1) := by decide +kernel
theorem dX9_layEnds_42 : decode cX9_layEnds 42 = .ok (.ifCond .ne 7, 3) := by decide +kernel
theorem dX9_layEnds_45 : decode cX9_layEnds 45 = .ok (.iconst 0, 1) := by decide +kernel
theorem dX9_layEnds_46 : decode cX9_layEnds 46 = .ok (.goto 4, 3) := by decide +kernel
theorem dX9_layEnds_49 : decode cX9_layEnds 49 = .ok (.iconst 4, 1) := by decide +kernel
theorem dX9_layEnds_50 : decode cX9_layEnds 50 = .ok (.iastore, 1) := by decide +kernel
theorem dX9_layEnds_51 : decode cX9_layEnds 51 = .ok (.iinc 1 1, 3) := by decide +kernel
theorem dX9_layEnds_54 : decode cX9_layEnds 54 = .ok (.goto (-52), 3) := by decide +kernel
theorem dX9_layEnds_57 : decode cX9_layEnds 57 = .ok (.return_, 1) := by decide +kernel
set_option maxRecDepth 20000 in
theorem ggX9_reach_X9_cells : GoodIn wsX9_reach wsX9_cells := goodIn_r _ [13, 2, 7, 14, 15, 16, 17, 18, 19, 20, 21, 22, 23, 24, 25, 26, 27, 28, 29, 30, 31, 32, 33, 34, 35, 36, 37, 38, 39] (by decide +kernel) (by decide +kernel)
set_option maxRecDepth 20000 in
theorem gX9_reach_X9_cells : GoodIn wsX9_reach (wsV RX9 97 RX9 yX9_cells wsX9_cells) := goodIn_app (goodIn_of _ (by decide +kernel)) ggX9_reach_X9_cells
theorem dX9_reach_0 : decode cX9_reach 0 = .ok (.iconst 0, 1) := by decide +kernel
theorem dX9_reach_1 : decode cX9_reach 1 = .ok (.istore_n 1, 1) := by decide +kernel
theorem dX9_reach_2 : decode cX9_reach 2 = .ok (.iload_n 1, 1) := by decide +kernel
theorem dX9_reach_3 : decode cX9_reach 3 = .ok (.bipush 10, 2) := by decide +kernel
theorem dX9_reach_5 : decode cX9_reach 5 = .ok (.if_icmp .ge 17, 3) := by decide +kernel
theorem dX9_reach_8 : decode cX9_reach 8 = .ok (.aload_n 0, 1) := by decide +kernel
theorem dX9_reach_9 : decode cX9_reach 9 = .ok (.getfield 57, 3) := by decide +kernel
theorem dX9_reach_12 : decode cX9_reach 12 = .ok (.iload_n 1, 1) := by decide +kernel
theorem dX9_reach_13 : decode cX9_reach 13 = .ok (.bipush (-9), 2) := by decide +kernel
theorem dX9_reach_15 : decode cX9_reach 15 = .ok (.iastore, 1) := by decide +kernel
theorem dX9_reach_16 : decode cX9_reach 16 = .ok (.iinc 1 1, 3) := by decide +kernel
theorem dX9_reach_19 : decode cX9_reach 19 = .ok (.goto (-17), 3) := by decide +kernel
theorem dX9_reach_22 : decode cX9_reach 22 = .ok (.iconst 0, 1) := by decide +kernel
theorem dX9_reach_23 : decode cX9_reach 23 = .ok (.istore_n 1, 1) := by decide +kernel
theorem dX9_reach_24 : decode cX9_reach 24 = .ok (.iload_n 1, 1) := by decide +kernel
theorem dX9_reach_25 : decode cX9_reach 25 = .ok (.aload_n 0, 1) := by decide +kernel
theorem dX9_reach_26 : decode cX9_reach 26 = .ok (.getfield 85, 3) := by decide +kernel
theorem dX9_reach_29 : decode cX9_reach 29 = .ok (.if_icmp .ge 30, 3) := by decide +kernel
theorem dX9_reach_32 : decode cX9_reach 32 = .ok (.aload_n 0, 1) := by decide +kernel
theorem dX9_reach_33 : decode cX9_reach 33 = .ok (.getfield 57, 3) := by decide +kernel
theorem dX9_reach_36 : decode cX9_reach 36 = .ok (.iload_n 1, 1) := by decide +kernel
theorem dX9_reach_37 : decode cX9_reach 37 = .ok (.aload_n 0, 1) := by decide +kernel
theorem dX9_reach_38 : decode cX9_reach 38 = .ok (.getfield 51, 3) := by decide +kernel
theorem dX9_reach_41 : decode cX9_reach 41 = .ok (.iload_n 1, 1) := by decide +kernel
theorem dX9_reach_42 : decode cX9_reach 42 = .ok (.iaload, 1) := by decide +kernel
theorem dX9_reach_43 : decode cX9_reach 43 = .ok (.ifCond .le 7, 3) := by decide +kernel
theorem dX9_reach_46 : decode cX9_reach 46 = .ok (.iload_n 1, 1) := by decide +kernel
theorem dX9_reach_47 : decode cX9_reach 47 = .ok (.goto 5, 3) := by decide +kernel
theorem dX9_reach_50 : decode cX9_reach 50 = .ok (.bipush (-9), 2) := by decide +kernel
theorem dX9_reach_52 : decode cX9_reach 52 = .ok (.iastore, 1) := by decide +kernel
theorem dX9_reach_53 : decode cX9_reach 53 = .ok (.iinc 1 1, 3) := by decide +kernel
theorem dX9_reach_56 : decode cX9_reach 56 = .ok (.goto (-32), 3) := by decide +kernel
theorem dX9_reach_59 : decode cX9_reach 59 = .ok (.iconst 1, 1) := by decide +kernel
theorem dX9_reach_60 : decode cX9_reach 60 = .ok (.istore_n 1, 1) := by decide +kernel
theorem dX9_reach_61 : decode cX9_reach 61 = .ok (.iload_n 1, 1) := by decide +kernel
theorem dX9_reach_62 : decode cX9_reach 62 = .ok (.ifCond .eq 137, 3) := by decide +kernel
theorem dX9_reach_65 : decode cX9_reach 65 = .ok (.iconst 0, 1) := by decide +kernel
theorem dX9_reach_66 : decode cX9_reach 66 = .ok (.istore_n 1, 1) := by decide +kernel
theorem dX9_reach_67 : decode cX9_reach 67 = .ok (.iconst 0, 1) := by decide +kernel
theorem dX9_reach_68 : decode cX9_reach 68 = .ok (.istore_n 2, 1) := by decide +kernel
theorem dX9_reach_69 : decode cX9_reach 69 = .ok (.iload_n 2, 1) := by decide +kernel
theorem dX9_reach_70 : decode cX9_reach 70 = .ok (.aload_n 0, 1) := by decide +kernel
theorem dX9_reach_71 : decode cX9_reach 71 = .ok (.invokevirtual 97, 3) := by decide +kernel
theorem dX9_reach_74 : decode cX9_reach 74 = .ok (.if_icmp .ge 122, 3) := by decide +kernel
theorem dX9_reach_77 : decode cX9_reach 77 = .ok (.iload_n 2, 1) := by decide +kernel
theorem dX9_reach_78 : decode cX9_reach 78 = .ok (.aload_n 0, 1) := by decide +kernel
theorem dX9_reach_79 : decode cX9_reach 79 = .ok (.getfield 85, 3) := by decide +kernel
theorem dX9_reach_82 : decode cX9_reach 82 = .ok (.irem, 1) := by decide +kernel
theorem dX9_reach_83 : decode cX9_reach 83 = .ok (.istore_n 3, 1) := by decide +kernel
theorem dX9_reach_84 : decode cX9_reach 84 = .ok (.iconst 5, 1) := by decide +kernel
theorem dX9_reach_85 : decode cX9_reach 85 = .ok (.iload_n 2, 1) := by decide +kernel
theorem dX9_reach_86 : decode cX9_reach 86 = .ok (.aload_n 0, 1) := by decide +kernel
theorem dX9_reach_87 : decode cX9_reach 87 = .ok (.getfield 85, 3) := by decide +kernel
theorem dX9_reach_90 : decode cX9_reach 90 = .ok (.idiv, 1) := by decide +kernel
theorem dX9_reach_91 : decode cX9_reach 91 = .ok (.iadd, 1) := by decide +kernel
theorem dX9_reach_92 : decode cX9_reach 92 = .ok (.istore 4, 2) := by decide +kernel
theorem dX9_reach_94 : decode cX9_reach 94 = .ok (.aload_n 0, 1) := by decide +kernel
theorem dX9_reach_95 : decode cX9_reach 95 = .ok (.getfield 57, 3) := by decide +kernel
theorem dX9_reach_98 : decode cX9_reach 98 = .ok (.iload_n 3, 1) := by decide +kernel
theorem dX9_reach_99 : decode cX9_reach 99 = .ok (.iaload, 1) := by decide +kernel
theorem dX9_reach_100 : decode cX9_reach 100 = .ok (.bipush (-9), 2) := by decide +kernel
theorem dX9_reach_102 : decode cX9_reach 102 = .ok (.if_icmp .eq 40, 3) := by decide +kernel
theorem dX9_reach_105 : decode cX9_reach 105 = .ok (.aload_n 0, 1) := by decide +kernel
theorem dX9_reach_106 : decode cX9_reach 106 = .ok (.getfield 57, 3) := by decide +kernel
theorem dX9_reach_109 : decode cX9_reach 109 = .ok (.iload 4, 2) := by decide +kernel
theorem dX9_reach_111 : decode cX9_reach 111 = .ok (.iaload, 1) := by decide +kernel
theorem dX9_reach_112 : decode cX9_reach 112 = .ok (.bipush (-9), 2) := by decide +kernel
theorem dX9_reach_114 : decode cX9_reach 114 = .ok (.if_icmp .ne 28, 3) := by decide +kernel
theorem dX9_reach_117 : decode cX9_reach 117 = .ok (.aload_n 0, 1) := by decide +kernel
theorem dX9_reach_118 : decode cX9_reach 118 = .ok (.getfield 48, 3) := by decide +kernel
theorem dX9_reach_121 : decode cX9_reach 121 = .ok (.iload_n 2, 1) := by decide +kernel
theorem dX9_reach_122 : decode cX9_reach 122 = .ok (.iaload, 1) := by decide +kernel
theorem dX9_reach_123 : decode cX9_reach 123 = .ok (.aload_n 0, 1) := by decide +kernel
theorem dX9_reach_124 : decode cX9_reach 124 = .ok (.getfield 45, 3) := by decide +kernel
theorem dX9_reach_127 : decode cX9_reach 127 = .ok (.iload_n 2, 1) := by decide +kernel
theorem dX9_reach_128 : decode cX9_reach 128 = .ok (.iaload, 1) := by decide +kernel
theorem dX9_reach_129 : decode cX9_reach 129 = .ok (.if_icmp .ge 13, 3) := by decide +kernel
theorem dX9_reach_132 : decode cX9_reach 132 = .ok (.aload_n 0, 1) := by decide +kernel
theorem dX9_reach_133 : decode cX9_reach 133 = .ok (.getfield 57, 3) := by decide +kernel
theorem dX9_reach_136 : decode cX9_reach 136 = .ok (.iload 4, 2) := by decide +kernel
theorem dX9_reach_138 : decode cX9_reach 138 = .ok (.iload_n 3, 1) := by decide +kernel
theorem dX9_reach_139 : decode cX9_reach 139 = .ok (.iastore, 1) := by decide +kernel
theorem dX9_reach_140 : decode cX9_reach 140 = .ok (.iconst 1, 1) := by decide +kernel
theorem dX9_reach_141 : decode cX9_reach 141 = .ok (.istore_n 1, 1) := by decide +kernel
theorem dX9_reach_142 : decode cX9_reach 142 = .ok (.aload_n 0, 1) := by decide +kernel
theorem dX9_reach_143 : decode cX9_reach 143 = .ok (.getfield 57, 3) := by decide +kernel
theorem dX9_reach_146 : decode cX9_reach 146 = .ok (.iload 4, 2) := by decide +kernel
theorem dX9_reach_148 : decode cX9_reach 148 = .ok (.iaload, 1) := by decide +kernel
theorem dX9_reach_149 : decode cX9_reach 149 = .ok (.bipush (-9), 2) := by decide +kernel
theorem dX9_reach_151 : decode cX9_reach 151 = .ok (.if_icmp .eq 39, 3) := by decide +kernel
theorem dX9_reach_154 : decode cX9_reach 154 = .ok (.aload_n 0, 1) := by decide +kernel
theorem dX9_reach_155 : decode cX9_reach 155 = .ok (.getfield 57, 3) := by decide +kernel
theorem dX9_reach_158 : decode cX9_reach 158 = .ok (.iload_n 3, 1) := by decide +kernel
theorem dX9_reach_159 : decode cX9_reach 159 = .ok (.iaload, 1) := by decide +kernel
theorem dX9_reach_160 : decode cX9_reach 160 = .ok (.bipush (-9), 2) := by decide +kernel
theorem dX9_reach_162 : decode cX9_reach 162 = .ok (.if_icmp .ne 28, 3) := by decide +kernel
theorem dX9_reach_165 : decode cX9_reach 165 = .ok (.aload_n 0, 1) := by decide +kernel
theorem dX9_reach_166 : decode cX9_reach 166 = .ok (.getfield 48, 3) := by decide +kernel
theorem dX9_reach_169 : decode cX9_reach 169 = .ok (.iload_n 2, 1) := by decide +kernel
theorem dX9_reach_170 : decode cX9_reach 170 = .ok (.iaload, 1) := by decide +kernel
theorem dX9_reach_171 : decode cX9_reach 171 = .ok (.aload_n 0, 1) := by decide +kernel
theorem dX9_reach_172 : decode cX9_reach 172 = .ok (.getfield 42, 3) := by decide +kernel
theorem dX9_reach_175 : decode cX9_reach 175 = .ok (.iload_n 2, 1) := by decide +kernel
theorem dX9_reach_176 : decode cX9_reach 176 = .ok (.iaload, 1) := by decide +kernel
theorem dX9_reach_177 : decode cX9_reach 177 = .ok (.if_icmp .le 13, 3) := by decide +kernel
theorem dX9_reach_180 : decode cX9_reach 180 = .ok (.aload_n 0, 1) := by decide +kernel
theorem dX9_reach_181 : decode cX9_reach 181 = .ok (.getfield 57, 3) := by decide +kernel
theorem dX9_reach_184 : decode cX9_reach 184 = .ok (.iload_n 3, 1) := by decide +kernel
theorem dX9_reach_185 : decode cX9_reach 185 = .ok (.iload 4, 2) := by decide +kernel
theorem dX9_reach_187 : decode cX9_reach 187 = .ok (.iastore, 1) := by decide +kernel
theorem dX9_reach_188 : decode cX9_reach 188 = .ok (.iconst 1, 1) := by decide +kernel
theorem dX9_reach_189 : decode cX9_reach 189 = .ok (.istore_n 1, 1) := by decide +kernel
theorem dX9_reach_190 : decode cX9_reach 190 = .ok (.iinc 2 1, 3) := by decide +kernel
theorem dX9_reach_193 : decode cX9_reach 193 = .ok (.goto (-124), 3) := by decide +kernel
theorem dX9_reach_196 : decode cX9_reach 196 = .ok (.goto (-135), 3) := by decide +kernel
theorem dX9_reach_199 : decode cX9_reach 199 = .ok (.iconst 0, 1) := by decide +kernel
theorem dX9_reach_200 : decode cX9_reach 200 = .ok (.istore_n 2, 1) := by decide +kernel
theorem dX9_reach_201 : decode cX9_reach 201 = .ok (.iload_n 2, 1) := by decide +kernel
theorem dX9_reach_202 : decode cX9_reach 202 = .ok (.aload_n 0, 1) := by decide +kernel
theorem dX9_reach_203 : decode cX9_reach 203 = .ok (.getfield 88, 3) := by decide +kernel
theorem dX9_reach_206 : decode cX9_reach 206 = .ok (.if_icmp .ge 35, 3) := by decide +kernel
theorem dX9_reach_209 : decode cX9_reach 209 = .ok (.aload_n 0, 1) := by decide +kernel
theorem dX9_reach_210 : decode cX9_reach 210 = .ok (.getfield 57, 3) := by decide +kernel
theorem dX9_reach_213 : decode cX9_reach 213 = .ok (.iconst 5, 1) := by decide +kernel
theorem dX9_reach_214 : decode cX9_reach 214 = .ok (.iload_n 2, 1) := by decide +kernel
theorem dX9_reach_215 : decode cX9_reach 215 = .ok (.iadd, 1) := by decide +kernel
theorem dX9_reach_216 : decode cX9_reach 216 = .ok (.iaload, 1) := by decide +kernel
theorem dX9_reach_217 : decode cX9_reach 217 = .ok (.bipush (-9), 2) := by decide +kernel
theorem dX9_reach_219 : decode cX9_reach 219 = .ok (.if_icmp .eq 16, 3) := by decide +kernel
theorem dX9_reach_222 : decode cX9_reach 222 = .ok (.aload_n 0, 1) := by decide +kernel
theorem dX9_reach_223 : decode cX9_reach 223 = .ok (.getfield 54, 3) := by decide +kernel
theorem dX9_reach_226 : decode cX9_reach 226 = .ok (.iload_n 2, 1) := by decide +kernel
theorem dX9_reach_227 : decode cX9_reach 227 = .ok (.iaload, 1) := by decide +kernel
theorem dX9_reach_228 : decode cX9_reach 228 = .ok (.ifCond .le 7, 3) := by decide +kernel
theorem dX9_reach_231 : decode cX9_reach 231 = .ok (.iconst 5, 1) := by decide +kernel
theorem dX9_reach_232 : decode cX9_reach 232 = .ok (.iload_n 2, 1) := by decide +kernel
theorem dX9_reach_233 : decode cX9_reach 233 = .ok (.iadd, 1) := by decide +kernel
theorem dX9_reach_234 : decode cX9_reach 234 = .ok (.ireturn, 1) := by decide +kernel
theorem dX9_reach_235 : decode cX9_reach 235 = .ok (.iinc 2 1, 3) := by decide +kernel
theorem dX9_reach_238 : decode cX9_reach 238 = .ok (.goto (-37), 3) := by decide +kernel
theorem dX9_reach_241 : decode cX9_reach 241 = .ok (.bipush (-9), 2) := by decide +kernel
theorem dX9_reach_243 : decode cX9_reach 243 = .ok (.ireturn, 1) := by decide +kernel
theorem dX9_take_0 : decode cX9_take 0 = .ok (.iload_n 1, 1) := by decide +kernel
theorem dX9_take_1 : decode cX9_take 1 = .ok (.istore_n 2, 1) := by decide +kernel
theorem dX9_take_2 : decode cX9_take 2 = .ok (.aload_n 0, 1) := by decide +kernel
theorem dX9_take_3 : decode cX9_take 3 = .ok (.getfield 54, 3) := by decide +kernel
theorem dX9_take_6 : decode cX9_take 6 = .ok (.iload_n 1, 1) := by decide +kernel
theorem dX9_take_7 : decode cX9_take 7 = .ok (.iconst 5, 1) := by decide +kernel
theorem dX9_take_8 : decode cX9_take 8 = .ok (.isub, 1) := by decide +kernel
theorem dX9_take_9 : decode cX9_take 9 = .ok (.dup2, 1) := by decide +kernel
theorem dX9_take_10 : decode cX9_take 10 = .ok (.iaload, 1) := by decide +kernel
theorem dX9_take_11 : decode cX9_take 11 = .ok (.iconst 1, 1) := by decide +kernel
theorem dX9_take_12 : decode cX9_take 12 = .ok (.isub, 1) := by decide +kernel
theorem dX9_take_13 : decode cX9_take 13 = .ok (.iastore, 1) := by decide +kernel
theorem dX9_take_14 : decode cX9_take 14 = .ok (.iload_n 2, 1) := by decide +kernel
theorem dX9_take_15 : decode cX9_take 15 = .ok (.iconst 4, 1) := by decide +kernel
theorem dX9_take_16 : decode cX9_take 16 = .ok (.if_icmp .gt 13, 3) := by decide +kernel
theorem dX9_take_19 : decode cX9_take 19 = .ok (.aload_n 0, 1) := by decide +kernel
theorem dX9_take_20 : decode cX9_take 20 = .ok (.getfield 57, 3) := by decide +kernel
theorem dX9_take_23 : decode cX9_take 23 = .ok (.iload_n 2, 1) := by decide +kernel
theorem dX9_take_24 : decode cX9_take 24 = .ok (.iaload, 1) := by decide +kernel
theorem dX9_take_25 : decode cX9_take 25 = .ok (.iload_n 2, 1) := by decide +kernel
theorem dX9_take_26 : decode cX9_take 26 = .ok (.if_icmp .eq 61, 3) := by decide +kernel
theorem dX9_take_29 : decode cX9_take 29 = .ok (.aload_n 0, 1) := by decide +kernel
theorem dX9_take_30 : decode cX9_take 30 = .ok (.getfield 57, 3) := by decide +kernel
theorem dX9_take_33 : decode cX9_take 33 = .ok (.iload_n 2, 1) := by decide +kernel
theorem dX9_take_34 : decode cX9_take 34 = .ok (.iaload, 1) := by decide +kernel
theorem dX9_take_35 : decode cX9_take 35 = .ok (.istore_n 3, 1) := by decide +kernel
theorem dX9_take_36 : decode cX9_take 36 = .ok (.iload_n 2, 1) := by decide +kernel
theorem dX9_take_37 : decode cX9_take 37 = .ok (.iconst 4, 1) := by decide +kernel
theorem dX9_take_38 : decode cX9_take 38 = .ok (.if_icmp .le 25, 3) := by decide +kernel
theorem dX9_take_41 : decode cX9_take 41 = .ok (.aload_n 0, 1) := by decide +kernel
theorem dX9_take_42 : decode cX9_take 42 = .ok (.getfield 48, 3) := by decide +kernel
theorem dX9_take_45 : decode cX9_take 45 = .ok (.iload_n 2, 1) := by decide +kernel
theorem dX9_take_46 : decode cX9_take 46 = .ok (.iconst 5, 1) := by decide +kernel
theorem dX9_take_47 : decode cX9_take 47 = .ok (.isub, 1) := by decide +kernel
theorem dX9_take_48 : decode cX9_take 48 = .ok (.aload_n 0, 1) := by decide +kernel
theorem dX9_take_49 : decode cX9_take 49 = .ok (.getfield 85, 3) := by decide +kernel
theorem dX9_take_52 : decode cX9_take 52 = .ok (.imul, 1) := by decide +kernel
theorem dX9_take_53 : decode cX9_take 53 = .ok (.iload_n 3, 1) := by decide +kernel
theorem dX9_take_54 : decode cX9_take 54 = .ok (.iadd, 1) := by decide +kernel
theorem dX9_take_55 : decode cX9_take 55 = .ok (.dup2, 1) := by decide +kernel
theorem dX9_take_56 : decode cX9_take 56 = .ok (.iaload, 1) := by decide +kernel
theorem dX9_take_57 : decode cX9_take 57 = .ok (.iconst 1, 1) := by decide +kernel
theorem dX9_take_58 : decode cX9_take 58 = .ok (.iadd, 1) := by decide +kernel
theorem dX9_take_59 : decode cX9_take 59 = .ok (.iastore, 1) := by decide +kernel
theorem dX9_take_60 : decode cX9_take 60 = .ok (.goto 22, 3) := by decide +kernel
theorem dX9_take_63 : decode cX9_take 63 = .ok (.aload_n 0, 1) := by decide +kernel
theorem dX9_take_64 : decode cX9_take 64 = .ok (.getfield 48, 3) := by decide +kernel
theorem dX9_take_67 : decode cX9_take 67 = .ok (.iload_n 3, 1) := by decide +kernel
theorem dX9_take_68 : decode cX9_take 68 = .ok (.iconst 5, 1) := by decide +kernel
theorem dX9_take_69 : decode cX9_take 69 = .ok (.isub, 1) := by decide +kernel
theorem dX9_take_70 : decode cX9_take 70 = .ok (.aload_n 0, 1) := by decide +kernel
theorem dX9_take_71 : decode cX9_take 71 = .ok (.getfield 85, 3) := by decide +kernel
theorem dX9_take_74 : decode cX9_take 74 = .ok (.imul, 1) := by decide +kernel
theorem dX9_take_75 : decode cX9_take 75 = .ok (.iload_n 2, 1) := by decide +kernel
theorem dX9_take_76 : decode cX9_take 76 = .ok (.iadd, 1) := by decide +kernel
theorem dX9_take_77 : decode cX9_take 77 = .ok (.dup2, 1) := by decide +kernel
theorem dX9_take_78 : decode cX9_take 78 = .ok (.iaload, 1) := by decide +kernel
theorem dX9_take_79 : decode cX9_take 79 = .ok (.iconst 1, 1) := by decide +kernel
theorem dX9_take_80 : decode cX9_take 80 = .ok (.isub, 1) := by decide +kernel
theorem dX9_take_81 : decode cX9_take 81 = .ok (.iastore, 1) := by decide +kernel
theorem dX9_take_82 : decode cX9_take 82 = .ok (.iload_n 3, 1) := by decide +kernel
theorem dX9_take_83 : decode cX9_take 83 = .ok (.istore_n 2, 1) := by decide +kernel
theorem dX9_take_84 : decode cX9_take 84 = .ok (.goto (-70), 3) := by decide +kernel
theorem dX9_take_87 : decode cX9_take 87 = .ok (.aload_n 0, 1) := by decide +kernel
theorem dX9_take_88 : decode cX9_take 88 = .ok (.getfield 51, 3) := by decide +kernel
theorem dX9_take_91 : decode cX9_take 91 = .ok (.iload_n 2, 1) := by decide +kernel
theorem dX9_take_92 : decode cX9_take 92 = .ok (.dup2, 1) := by decide +kernel
theorem dX9_take_93 : decode cX9_take 93 = .ok (.iaload, 1) := by decide +kernel
theorem dX9_take_94 : decode cX9_take 94 = .ok (.iconst 1, 1) := by decide +kernel
theorem dX9_take_95 : decode cX9_take 95 = .ok (.isub, 1) := by decide +kernel
theorem dX9_take_96 : decode cX9_take 96 = .ok (.iastore, 1) := by decide +kernel
theorem dX9_take_97 : decode cX9_take 97 = .ok (.return_, 1) := by decide +kernel
set_option maxRecDepth 20000 in
theorem ggX9_canSum_X9_cells : GoodIn wsX9_canSum wsX9_cells := goodIn_r _ [14, 2, 5, 24, 25, 26, 27, 28, 29, 30, 31, 32, 33, 34, 35, 36, 37, 38, 39, 40, 41, 42, 43, 44, 45, 46, 47, 48, 49] (by decide +kernel) (by decide +kernel)
set_option maxRecDepth 20000 in
theorem gX9_canSum_X9_cells : GoodIn wsX9_canSum (wsV RX9 97 RX9 yX9_cells wsX9_cells) := goodIn_app (goodIn_of _ (by decide +kernel)) ggX9_canSum_X9_cells
set_option maxRecDepth 20000 in
theorem ggX9_canSum_X9_reach : GoodIn wsX9_canSum wsX9_reach := goodIn_r _ [18, 19, 2, 1, 7, 9, 8, 5, 4, 10, 11, 12, 13, 14, 24, 25, 26, 27, 28, 29, 30, 31, 32, 33, 34, 35, 36, 37, 38, 39, 40, 41, 42, 43, 44, 45, 46, 47, 48, 49] (by decide +kernel) (by decide +kernel)
set_option maxRecDepth 20000 in
theorem gX9_canSum_X9_reach : GoodIn wsX9_canSum (wsV RX9 171 RX9 yX9_reach wsX9_reach) := goodIn_app (goodIn_of _ (by decide +kernel)) ggX9_canSum_X9_reach
set_option maxRecDepth 20000 in
theorem ggX9_canSum_X9_take : GoodIn wsX9_canSum wsX9_take := goodIn_r _ [23, 4, 19, 7, 2, 1, 24, 25, 26, 27, 28, 29, 30, 31, 32, 33, 34, 35, 36, 37, 38, 39, 40, 41, 42, 43, 44, 45, 46, 47, 48, 49] (by decide +kernel) (by decide +kernel)
set_option maxRecDepth 20000 in
theorem gX9_canSum_X9_take : GoodIn wsX9_canSum (wsV RX9 174 RX9 yX9_take wsX9_take) := goodIn_app (goodIn_of _ (by decide +kernel)) ggX9_canSum_X9_take
theorem dX9_canSum_0 : decode cX9_canSum 0 = .ok (.iconst 0, 1) := by decide +kernel
theorem dX9_canSum_1 : decode cX9_canSum 1 = .ok (.istore_n 1, 1) := by decide +kernel
theorem dX9_canSum_2 : decode cX9_canSum 2 = .ok (.iload_n 1, 1) := by decide +kernel
theorem dX9_canSum_3 : decode cX9_canSum 3 = .ok (.iconst 5, 1) := by decide +kernel
theorem dX9_canSum_4 : decode cX9_canSum 4 = .ok (.if_icmp .ge 57, 3) := by decide +kernel
theorem dX9_canSum_7 : decode cX9_canSum 7 = .ok (.aload_n 0, 1) := by decide +kernel
theorem dX9_canSum_8 : decode cX9_canSum 8 = .ok (.getfield 51, 3) := by decide +kernel
theorem dX9_canSum_11 : decode cX9_canSum 11 = .ok (.iload_n 1, 1) := by decide +kernel
theorem dX9_canSum_12 : decode cX9_canSum 12 = .ok (.iload_n 1, 1) := by decide +kernel
theorem dX9_canSum_13 : decode cX9_canSum 13 = .ok (.aload_n 0, 1) := by decide +kernel
theorem dX9_canSum_14 : decode cX9_canSum 14 = .ok (.getfield 85, 3) := by decide +kernel
theorem dX9_canSum_17 : decode cX9_canSum 17 = .ok (.if_icmp .ge 12, 3) := by decide +kernel
theorem dX9_canSum_20 : decode cX9_canSum 20 = .ok (.aload_n 0, 1) := by decide +kernel
theorem dX9_canSum_21 : decode cX9_canSum 21 = .ok (.getfield 22, 3) := by decide +kernel
theorem dX9_canSum_24 : decode cX9_canSum 24 = .ok (.iload_n 1, 1) := by decide +kernel
theorem dX9_canSum_25 : decode cX9_canSum 25 = .ok (.iaload, 1) := by decide +kernel
theorem dX9_canSum_26 : decode cX9_canSum 26 = .ok (.goto 4, 3) := by decide +kernel
theorem dX9_canSum_29 : decode cX9_canSum 29 = .ok (.iconst 0, 1) := by decide +kernel
theorem dX9_canSum_30 : decode cX9_canSum 30 = .ok (.iastore, 1) := by decide +kernel
theorem dX9_canSum_31 : decode cX9_canSum 31 = .ok (.aload_n 0, 1) := by decide +kernel
theorem dX9_canSum_32 : decode cX9_canSum 32 = .ok (.getfield 54, 3) := by decide +kernel
theorem dX9_canSum_35 : decode cX9_canSum 35 = .ok (.iload_n 1, 1) := by decide +kernel
theorem dX9_canSum_36 : decode cX9_canSum 36 = .ok (.iload_n 1, 1) := by decide +kernel
theorem dX9_canSum_37 : decode cX9_canSum 37 = .ok (.aload_n 0, 1) := by decide +kernel
theorem dX9_canSum_38 : decode cX9_canSum 38 = .ok (.getfield 88, 3) := by decide +kernel
theorem dX9_canSum_41 : decode cX9_canSum 41 = .ok (.if_icmp .ge 12, 3) := by decide +kernel
theorem dX9_canSum_44 : decode cX9_canSum 44 = .ok (.aload_n 0, 1) := by decide +kernel
theorem dX9_canSum_45 : decode cX9_canSum 45 = .ok (.getfield 25, 3) := by decide +kernel
theorem dX9_canSum_48 : decode cX9_canSum 48 = .ok (.iload_n 1, 1) := by decide +kernel
theorem dX9_canSum_49 : decode cX9_canSum 49 = .ok (.iaload, 1) := by decide +kernel
theorem dX9_canSum_50 : decode cX9_canSum 50 = .ok (.goto 4, 3) := by decide +kernel
theorem dX9_canSum_53 : decode cX9_canSum 53 = .ok (.iconst 0, 1) := by decide +kernel
theorem dX9_canSum_54 : decode cX9_canSum 54 = .ok (.iastore, 1) := by decide +kernel
theorem dX9_canSum_55 : decode cX9_canSum 55 = .ok (.iinc 1 1, 3) := by decide +kernel
theorem dX9_canSum_58 : decode cX9_canSum 58 = .ok (.goto (-56), 3) := by decide +kernel
theorem dX9_canSum_61 : decode cX9_canSum 61 = .ok (.iconst 1, 1) := by decide +kernel
theorem dX9_canSum_62 : decode cX9_canSum 62 = .ok (.istore_n 1, 1) := by decide +kernel
theorem dX9_canSum_63 : decode cX9_canSum 63 = .ok (.iconst 0, 1) := by decide +kernel
theorem dX9_canSum_64 : decode cX9_canSum 64 = .ok (.istore_n 2, 1) := by decide +kernel
theorem dX9_canSum_65 : decode cX9_canSum 65 = .ok (.iload_n 2, 1) := by decide +kernel
theorem dX9_canSum_66 : decode cX9_canSum 66 = .ok (.aload_n 0, 1) := by decide +kernel
theorem dX9_canSum_67 : decode cX9_canSum 67 = .ok (.invokevirtual 97, 3) := by decide +kernel
theorem dX9_canSum_70 : decode cX9_canSum 70 = .ok (.if_icmp .ge 86, 3) := by decide +kernel
theorem dX9_canSum_73 : decode cX9_canSum 73 = .ok (.aload_n 0, 1) := by decide +kernel
theorem dX9_canSum_74 : decode cX9_canSum 74 = .ok (.getfield 48, 3) := by decide +kernel
theorem dX9_canSum_77 : decode cX9_canSum 77 = .ok (.iload_n 2, 1) := by decide +kernel
theorem dX9_canSum_78 : decode cX9_canSum 78 = .ok (.aload_n 0, 1) := by decide +kernel
theorem dX9_canSum_79 : decode cX9_canSum 79 = .ok (.getfield 42, 3) := by decide +kernel
theorem dX9_canSum_82 : decode cX9_canSum 82 = .ok (.iload_n 2, 1) := by decide +kernel
theorem dX9_canSum_83 : decode cX9_canSum 83 = .ok (.iaload, 1) := by decide +kernel
theorem dX9_canSum_84 : decode cX9_canSum 84 = .ok (.iastore, 1) := by decide +kernel
theorem dX9_canSum_85 : decode cX9_canSum 85 = .ok (.aload_n 0, 1) := by decide +kernel
theorem dX9_canSum_86 : decode cX9_canSum 86 = .ok (.getfield 51, 3) := by decide +kernel
theorem dX9_canSum_89 : decode cX9_canSum 89 = .ok (.iload_n 2, 1) := by decide +kernel
theorem dX9_canSum_90 : decode cX9_canSum 90 = .ok (.aload_n 0, 1) := by decide +kernel
theorem dX9_canSum_91 : decode cX9_canSum 91 = .ok (.getfield 85, 3) := by decide +kernel
theorem dX9_canSum_94 : decode cX9_canSum 94 = .ok (.irem, 1) := by decide +kernel
theorem dX9_canSum_95 : decode cX9_canSum 95 = .ok (.dup2, 1) := by decide +kernel
theorem dX9_canSum_96 : decode cX9_canSum 96 = .ok (.iaload, 1) := by decide +kernel
theorem dX9_canSum_97 : decode cX9_canSum 97 = .ok (.aload_n 0, 1) := by decide +kernel
theorem dX9_canSum_98 : decode cX9_canSum 98 = .ok (.getfield 42, 3) := by decide +kernel
theorem dX9_canSum_101 : decode cX9_canSum 101 = .ok (.iload_n 2, 1) := by decide +kernel
theorem dX9_canSum_102 : decode cX9_canSum 102 = .ok (.iaload, 1) := by decide +kernel
theorem dX9_canSum_103 : decode cX9_canSum 103 = .ok (.isub, 1) := by decide +kernel
theorem dX9_canSum_104 : decode cX9_canSum 104 = .ok (.iastore, 1) := by decide +kernel
theorem dX9_canSum_105 : decode cX9_canSum 105 = .ok (.aload_n 0, 1) := by decide +kernel
theorem dX9_canSum_106 : decode cX9_canSum 106 = .ok (.getfield 54, 3) := by decide +kernel
theorem dX9_canSum_109 : decode cX9_canSum 109 = .ok (.iload_n 2, 1) := by decide +kernel
theorem dX9_canSum_110 : decode cX9_canSum 110 = .ok (.aload_n 0, 1) := by decide +kernel
theorem dX9_canSum_111 : decode cX9_canSum 111 = .ok (.getfield 85, 3) := by decide +kernel
theorem dX9_canSum_114 : decode cX9_canSum 114 = .ok (.idiv, 1) := by decide +kernel
theorem dX9_canSum_115 : decode cX9_canSum 115 = .ok (.dup2, 1) := by decide +kernel
theorem dX9_canSum_116 : decode cX9_canSum 116 = .ok (.iaload, 1) := by decide +kernel
theorem dX9_canSum_117 : decode cX9_canSum 117 = .ok (.aload_n 0, 1) := by decide +kernel
theorem dX9_canSum_118 : decode cX9_canSum 118 = .ok (.getfield 42, 3) := by decide +kernel
theorem dX9_canSum_121 : decode cX9_canSum 121 = .ok (.iload_n 2, 1) := by decide +kernel
theorem dX9_canSum_122 : decode cX9_canSum 122 = .ok (.iaload, 1) := by decide +kernel
theorem dX9_canSum_123 : decode cX9_canSum 123 = .ok (.isub, 1) := by decide +kernel
theorem dX9_canSum_124 : decode cX9_canSum 124 = .ok (.iastore, 1) := by decide +kernel
theorem dX9_canSum_125 : decode cX9_canSum 125 = .ok (.iload_n 1, 1) := by decide +kernel
theorem dX9_canSum_126 : decode cX9_canSum 126 = .ok (.ifCond .eq 22, 3) := by decide +kernel
theorem dX9_canSum_129 : decode cX9_canSum 129 = .ok (.aload_n 0, 1) := by decide +kernel
theorem dX9_canSum_130 : decode cX9_canSum 130 = .ok (.getfield 42, 3) := by decide +kernel
theorem dX9_canSum_133 : decode cX9_canSum 133 = .ok (.iload_n 2, 1) := by decide +kernel
theorem dX9_canSum_134 : decode cX9_canSum 134 = .ok (.iaload, 1) := by decide +kernel
theorem dX9_canSum_135 : decode cX9_canSum 135 = .ok (.aload_n 0, 1) := by decide +kernel
theorem dX9_canSum_136 : decode cX9_canSum 136 = .ok (.getfield 45, 3) := by decide +kernel
theorem dX9_canSum_139 : decode cX9_canSum 139 = .ok (.iload_n 2, 1) := by decide +kernel
theorem dX9_canSum_140 : decode cX9_canSum 140 = .ok (.iaload, 1) := by decide +kernel
theorem dX9_canSum_141 : decode cX9_canSum 141 = .ok (.if_icmp .gt 7, 3) := by decide +kernel
theorem dX9_canSum_144 : decode cX9_canSum 144 = .ok (.iconst 1, 1) := by decide +kernel
theorem dX9_canSum_145 : decode cX9_canSum 145 = .ok (.goto 4, 3) := by decide +kernel
theorem dX9_canSum_148 : decode cX9_canSum 148 = .ok (.iconst 0, 1) := by decide +kernel
theorem dX9_canSum_149 : decode cX9_canSum 149 = .ok (.istore_n 1, 1) := by decide +kernel
theorem dX9_canSum_150 : decode cX9_canSum 150 = .ok (.iinc 2 1, 3) := by decide +kernel
theorem dX9_canSum_153 : decode cX9_canSum 153 = .ok (.goto (-88), 3) := by decide +kernel
theorem dX9_canSum_156 : decode cX9_canSum 156 = .ok (.iconst 0, 1) := by decide +kernel
theorem dX9_canSum_157 : decode cX9_canSum 157 = .ok (.istore_n 2, 1) := by decide +kernel
theorem dX9_canSum_158 : decode cX9_canSum 158 = .ok (.iconst 0, 1) := by decide +kernel
theorem dX9_canSum_159 : decode cX9_canSum 159 = .ok (.istore_n 3, 1) := by decide +kernel
theorem dX9_canSum_160 : decode cX9_canSum 160 = .ok (.iconst 0, 1) := by decide +kernel
theorem dX9_canSum_161 : decode cX9_canSum 161 = .ok (.istore 4, 2) := by decide +kernel
theorem dX9_canSum_163 : decode cX9_canSum 163 = .ok (.iload 4, 2) := by decide +kernel
theorem dX9_canSum_165 : decode cX9_canSum 165 = .ok (.iconst 5, 1) := by decide +kernel
theorem dX9_canSum_166 : decode cX9_canSum 166 = .ok (.if_icmp .ge 59, 3) := by decide +kernel
theorem dX9_canSum_169 : decode cX9_canSum 169 = .ok (.iload_n 1, 1) := by decide +kernel
theorem dX9_canSum_170 : decode cX9_canSum 170 = .ok (.ifCond .eq 27, 3) := by decide +kernel
theorem dX9_canSum_173 : decode cX9_canSum 173 = .ok (.aload_n 0, 1) := by decide +kernel
theorem dX9_canSum_174 : decode cX9_canSum 174 = .ok (.getfield 51, 3) := by decide +kernel
theorem dX9_canSum_177 : decode cX9_canSum 177 = .ok (.iload 4, 2) := by decide +kernel
theorem dX9_canSum_179 : decode cX9_canSum 179 = .ok (.iaload, 1) := by decide +kernel
theorem dX9_canSum_180 : decode cX9_canSum 180 = .ok (.ifCond .lt 17, 3) := by decide +kernel
theorem dX9_canSum_183 : decode cX9_canSum 183 = .ok (.aload_n 0, 1) := by decide +kernel
theorem dX9_canSum_184 : decode cX9_canSum 184 = .ok (.getfield 54, 3) := by decide +kernel
theorem dX9_canSum_187 : decode cX9_canSum 187 = .ok (.iload 4, 2) := by decide +kernel
theorem dX9_canSum_189 : decode cX9_canSum 189 = .ok (.iaload, 1) := by decide +kernel
theorem dX9_canSum_190 : decode cX9_canSum 190 = .ok (.ifCond .lt 7, 3) := by decide +kernel
theorem dX9_canSum_193 : decode cX9_canSum 193 = .ok (.iconst 1, 1) := by decide +kernel
theorem dX9_canSum_194 : decode cX9_canSum 194 = .ok (.goto 4, 3) := by decide +kernel
theorem dX9_canSum_197 : decode cX9_canSum 197 = .ok (.iconst 0, 1) := by decide +kernel
theorem dX9_canSum_198 : decode cX9_canSum 198 = .ok (.istore_n 1, 1) := by decide +kernel
theorem dX9_canSum_199 : decode cX9_canSum 199 = .ok (.iload_n 2, 1) := by decide +kernel
theorem dX9_canSum_200 : decode cX9_canSum 200 = .ok (.aload_n 0, 1) := by decide +kernel
theorem dX9_canSum_201 : decode cX9_canSum 201 = .ok (.getfield 51, 3) := by decide +kernel
theorem dX9_canSum_204 : decode cX9_canSum 204 = .ok (.iload 4, 2) := by decide +kernel
theorem dX9_canSum_206 : decode cX9_canSum 206 = .ok (.iaload, 1) := by decide +kernel
theorem dX9_canSum_207 : decode cX9_canSum 207 = .ok (.iadd, 1) := by decide +kernel
theorem dX9_canSum_208 : decode cX9_canSum 208 = .ok (.istore_n 2, 1) := by decide +kernel
theorem dX9_canSum_209 : decode cX9_canSum 209 = .ok (.iload_n 3, 1) := by decide +kernel
theorem dX9_canSum_210 : decode cX9_canSum 210 = .ok (.aload_n 0, 1) := by decide +kernel
theorem dX9_canSum_211 : decode cX9_canSum 211 = .ok (.getfield 54, 3) := by decide +kernel
theorem dX9_canSum_214 : decode cX9_canSum 214 = .ok (.iload 4, 2) := by decide +kernel
theorem dX9_canSum_216 : decode cX9_canSum 216 = .ok (.iaload, 1) := by decide +kernel
theorem dX9_canSum_217 : decode cX9_canSum 217 = .ok (.iadd, 1) := by decide +kernel
theorem dX9_canSum_218 : decode cX9_canSum 218 = .ok (.istore_n 3, 1) := by decide +kernel
theorem dX9_canSum_219 : decode cX9_canSum 219 = .ok (.iinc 4 1, 3) := by decide +kernel
theorem dX9_canSum_222 : decode cX9_canSum 222 = .ok (.goto (-59), 3) := by decide +kernel
theorem dX9_canSum_225 : decode cX9_canSum 225 = .ok (.iload_n 1, 1) := by decide +kernel
theorem dX9_canSum_226 : decode cX9_canSum 226 = .ok (.ifCond .eq 8, 3) := by decide +kernel
theorem dX9_canSum_229 : decode cX9_canSum 229 = .ok (.iload_n 2, 1) := by decide +kernel
theorem dX9_canSum_230 : decode cX9_canSum 230 = .ok (.iload_n 3, 1) := by decide +kernel
theorem dX9_canSum_231 : decode cX9_canSum 231 = .ok (.if_icmp .eq 5, 3) := by decide +kernel
theorem dX9_canSum_234 : decode cX9_canSum 234 = .ok (.iconst 0, 1) := by decide +kernel
theorem dX9_canSum_235 : decode cX9_canSum 235 = .ok (.ireturn, 1) := by decide +kernel
theorem dX9_canSum_236 : decode cX9_canSum 236 = .ok (.aload_n 0, 1) := by decide +kernel
theorem dX9_canSum_237 : decode cX9_canSum 237 = .ok (.invokevirtual 171, 3) := by decide +kernel
theorem dX9_canSum_240 : decode cX9_canSum 240 = .ok (.istore 4, 2) := by decide +kernel
theorem dX9_canSum_242 : decode cX9_canSum 242 = .ok (.iload 4, 2) := by decide +kernel
theorem dX9_canSum_244 : decode cX9_canSum 244 = .ok (.bipush (-9), 2) := by decide +kernel
theorem dX9_canSum_246 : decode cX9_canSum 246 = .ok (.if_icmp .eq 21, 3) := by decide +kernel
theorem dX9_canSum_249 : decode cX9_canSum 249 = .ok (.aload_n 0, 1) := by decide +kernel
theorem dX9_canSum_250 : decode cX9_canSum 250 = .ok (.iload 4, 2) := by decide +kernel
theorem dX9_canSum_252 : decode cX9_canSum 252 = .ok (.invokevirtual 174, 3) := by decide +kernel
theorem dX9_canSum_255 : decode cX9_canSum 255 = .ok (.iinc 2 (-1), 3) := by decide +kernel
theorem dX9_canSum_258 : decode cX9_canSum 258 = .ok (.aload_n 0, 1) := by decide +kernel
theorem dX9_canSum_259 : decode cX9_canSum 259 = .ok (.invokevirtual 171, 3) := by decide +kernel
theorem dX9_canSum_262 : decode cX9_canSum 262 = .ok (.istore 4, 2) := by decide +kernel
theorem dX9_canSum_264 : decode cX9_canSum 264 = .ok (.goto (-22), 3) := by decide +kernel
theorem dX9_canSum_267 : decode cX9_canSum 267 = .ok (.iload_n 2, 1) := by decide +kernel
theorem dX9_canSum_268 : decode cX9_canSum 268 = .ok (.ifCond .ne 7, 3) := by decide +kernel
theorem dX9_canSum_271 : decode cX9_canSum 271 = .ok (.iconst 1, 1) := by decide +kernel
theorem dX9_canSum_272 : decode cX9_canSum 272 = .ok (.goto 4, 3) := by decide +kernel
theorem dX9_canSum_275 : decode cX9_canSum 275 = .ok (.iconst 0, 1) := by decide +kernel
theorem dX9_canSum_276 : decode cX9_canSum 276 = .ok (.ireturn, 1) := by decide +kernel
set_option maxRecDepth 20000 in
theorem ggX9_endOf_X9_canSum : GoodIn wsX9_endOf wsX9_canSum := goodIn_r _ [7, 8, 9, 10, 11, 12, 13, 14, 1, 2, 15, 16, 17, 6, 18, 19, 20, 21, 22, 23, 24, 25, 26, 27, 28, 29, 30, 31, 32, 33, 34, 35, 36, 37, 38, 39, 40, 41, 42, 43, 44, 45, 46, 47, 48, 49, 50, 51, 52, 53] (by decide +kernel) (by decide +kernel)
set_option maxRecDepth 20000 in
theorem gX9_endOf_X9_canSum : GoodIn wsX9_endOf (wsV RX9 177 RX9 yX9_canSum wsX9_canSum) := goodIn_app (goodIn_of _ (by decide +kernel)) ggX9_endOf_X9_canSum
theorem dX9_endOf_0 : decode cX9_endOf 0 = .ok (.aload_n 0, 1) := by decide +kernel
theorem dX9_endOf_1 : decode cX9_endOf 1 = .ok (.getfield 42, 3) := by decide +kernel
theorem dX9_endOf_4 : decode cX9_endOf 4 = .ok (.iload_n 1, 1) := by decide +kernel
theorem dX9_endOf_5 : decode cX9_endOf 5 = .ok (.iaload, 1) := by decide +kernel
theorem dX9_endOf_6 : decode cX9_endOf 6 = .ok (.istore_n 3, 1) := by decide +kernel
theorem dX9_endOf_7 : decode cX9_endOf 7 = .ok (.aload_n 0, 1) := by decide +kernel
theorem dX9_endOf_8 : decode cX9_endOf 8 = .ok (.getfield 45, 3) := by decide +kernel
theorem dX9_endOf_11 : decode cX9_endOf 11 = .ok (.iload_n 1, 1) := by decide +kernel
theorem dX9_endOf_12 : decode cX9_endOf 12 = .ok (.iaload, 1) := by decide +kernel
theorem dX9_endOf_13 : decode cX9_endOf 13 = .ok (.istore 4, 2) := by decide +kernel
theorem dX9_endOf_15 : decode cX9_endOf 15 = .ok (.bipush (-9), 2) := by decide +kernel
theorem dX9_endOf_17 : decode cX9_endOf 17 = .ok (.istore 5, 2) := by decide +kernel
theorem dX9_endOf_19 : decode cX9_endOf 19 = .ok (.iload_n 3, 1) := by decide +kernel
theorem dX9_endOf_20 : decode cX9_endOf 20 = .ok (.istore 6, 2) := by decide +kernel
theorem dX9_endOf_22 : decode cX9_endOf 22 = .ok (.iload 6, 2) := by decide +kernel
theorem dX9_endOf_24 : decode cX9_endOf 24 = .ok (.iload 4, 2) := by decide +kernel
theorem dX9_endOf_26 : decode cX9_endOf 26 = .ok (.if_icmp .gt 66, 3) := by decide +kernel
theorem dX9_endOf_29 : decode cX9_endOf 29 = .ok (.iload 5, 2) := by decide +kernel
theorem dX9_endOf_31 : decode cX9_endOf 31 = .ok (.bipush (-9), 2) := by decide +kernel
theorem dX9_endOf_33 : decode cX9_endOf 33 = .ok (.if_icmp .ne 59, 3) := by decide +kernel
theorem dX9_endOf_36 : decode cX9_endOf 36 = .ok (.iload_n 2, 1) := by decide +kernel
theorem dX9_endOf_37 : decode cX9_endOf 37 = .ok (.ifCond .eq 13, 3) := by decide +kernel
theorem dX9_endOf_40 : decode cX9_endOf 40 = .ok (.iload 4, 2) := by decide +kernel
theorem dX9_endOf_42 : decode cX9_endOf 42 = .ok (.iload_n 3, 1) := by decide +kernel
theorem dX9_endOf_43 : decode cX9_endOf 43 = .ok (.iadd, 1) := by decide +kernel
theorem dX9_endOf_44 : decode cX9_endOf 44 = .ok (.iload 6, 2) := by decide +kernel
theorem dX9_endOf_46 : decode cX9_endOf 46 = .ok (.isub, 1) := by decide +kernel
theorem dX9_endOf_47 : decode cX9_endOf 47 = .ok (.goto 5, 3) := by decide +kernel
theorem dX9_endOf_50 : decode cX9_endOf 50 = .ok (.iload 6, 2) := by decide +kernel
theorem dX9_endOf_52 : decode cX9_endOf 52 = .ok (.istore 7, 2) := by decide +kernel
theorem dX9_endOf_54 : decode cX9_endOf 54 = .ok (.aload_n 0, 1) := by decide +kernel
theorem dX9_endOf_55 : decode cX9_endOf 55 = .ok (.getfield 42, 3) := by decide +kernel
theorem dX9_endOf_58 : decode cX9_endOf 58 = .ok (.iload_n 1, 1) := by decide +kernel
theorem dX9_endOf_59 : decode cX9_endOf 59 = .ok (.iload 7, 2) := by decide +kernel
theorem dX9_endOf_61 : decode cX9_endOf 61 = .ok (.iastore, 1) := by decide +kernel
theorem dX9_endOf_62 : decode cX9_endOf 62 = .ok (.aload_n 0, 1) := by decide +kernel
theorem dX9_endOf_63 : decode cX9_endOf 63 = .ok (.getfield 45, 3) := by decide +kernel
theorem dX9_endOf_66 : decode cX9_endOf 66 = .ok (.iload_n 1, 1) := by decide +kernel
theorem dX9_endOf_67 : decode cX9_endOf 67 = .ok (.iload 7, 2) := by decide +kernel
theorem dX9_endOf_69 : decode cX9_endOf 69 = .ok (.iastore, 1) := by decide +kernel
theorem dX9_endOf_70 : decode cX9_endOf 70 = .ok (.aload_n 0, 1) := by decide +kernel
theorem dX9_endOf_71 : decode cX9_endOf 71 = .ok (.invokevirtual 177, 3) := by decide +kernel
theorem dX9_endOf_74 : decode cX9_endOf 74 = .ok (.ifCond .eq 8, 3) := by decide +kernel
theorem dX9_endOf_77 : decode cX9_endOf 77 = .ok (.iload 7, 2) := by decide +kernel
theorem dX9_endOf_79 : decode cX9_endOf 79 = .ok (.goto 5, 3) := by decide +kernel
theorem dX9_endOf_82 : decode cX9_endOf 82 = .ok (.bipush (-9), 2) := by decide +kernel
theorem dX9_endOf_84 : decode cX9_endOf 84 = .ok (.istore 5, 2) := by decide +kernel
theorem dX9_endOf_86 : decode cX9_endOf 86 = .ok (.iinc 6 1, 3) := by decide +kernel
theorem dX9_endOf_89 : decode cX9_endOf 89 = .ok (.goto (-67), 3) := by decide +kernel
theorem dX9_endOf_92 : decode cX9_endOf 92 = .ok (.aload_n 0, 1) := by decide +kernel
theorem dX9_endOf_93 : decode cX9_endOf 93 = .ok (.getfield 42, 3) := by decide +kernel
theorem dX9_endOf_96 : decode cX9_endOf 96 = .ok (.iload_n 1, 1) := by decide +kernel
theorem dX9_endOf_97 : decode cX9_endOf 97 = .ok (.iload_n 3, 1) := by decide +kernel
theorem dX9_endOf_98 : decode cX9_endOf 98 = .ok (.iastore, 1) := by decide +kernel
theorem dX9_endOf_99 : decode cX9_endOf 99 = .ok (.aload_n 0, 1) := by decide +kernel
theorem dX9_endOf_100 : decode cX9_endOf 100 = .ok (.getfield 45, 3) := by decide +kernel
theorem dX9_endOf_103 : decode cX9_endOf 103 = .ok (.iload_n 1, 1) := by decide +kernel
theorem dX9_endOf_104 : decode cX9_endOf 104 = .ok (.iload 4, 2) := by decide +kernel
theorem dX9_endOf_106 : decode cX9_endOf 106 = .ok (.iastore, 1) := by decide +kernel
theorem dX9_endOf_107 : decode cX9_endOf 107 = .ok (.iload 5, 2) := by decide +kernel
theorem dX9_endOf_109 : decode cX9_endOf 109 = .ok (.ireturn, 1) := by decide +kernel
set_option maxRecDepth 20000 in
theorem ggX9_bySums_X9_layEnds : GoodIn wsX9_bySums wsX9_layEnds := goodIn_r _ [5, 6, 7, 8, 9, 10, 11, 4, 12, 13, 14, 37, 38, 39, 40, 41, 42, 43, 44, 45, 46, 47, 48, 49, 50, 51, 52, 53, 54, 55, 56, 57, 58, 59, 60, 61, 62] (by decide +kernel) (by decide +kernel)
set_option maxRecDepth 20000 in
theorem gX9_bySums_X9_layEnds : GoodIn wsX9_bySums (wsV RX9 181 RX9 yX9_layEnds wsX9_layEnds) := goodIn_app (goodIn_of _ (by decide +kernel)) ggX9_bySums_X9_layEnds
set_option maxRecDepth 20000 in
theorem ggX9_bySums_X9_canSum : GoodIn wsX9_bySums wsX9_canSum := goodIn_r _ [18, 19, 13, 20, 21, 14, 22, 23, 6, 8, 9, 10, 11, 4, 12, 24, 25, 26, 27, 28, 29, 30, 31, 32, 37, 38, 39, 40, 41, 42, 43, 44, 45, 46, 47, 48, 49, 50, 51, 52, 53, 54, 55, 56, 57, 58, 59, 60, 61, 62] (by decide +kernel) (by decide +kernel)
set_option maxRecDepth 20000 in
theorem gX9_bySums_X9_canSum : GoodIn wsX9_bySums (wsV RX9 177 RX9 yX9_canSum wsX9_canSum) := goodIn_app (goodIn_of _ (by decide +kernel)) ggX9_bySums_X9_canSum
set_option maxRecDepth 20000 in
theorem ggX9_bySums_X9_cells : GoodIn wsX9_bySums wsX9_cells := goodIn_r _ [12, 13, 14, 37, 38, 39, 40, 41, 42, 43, 44, 45, 46, 47, 48, 49, 50, 51, 52, 53, 54, 55, 56, 57, 58, 59, 60, 61, 62] (by decide +kernel) (by decide +kernel)
set_option maxRecDepth 20000 in
theorem gX9_bySums_X9_cells : GoodIn wsX9_bySums (wsV RX9 97 RX9 yX9_cells wsX9_cells) := goodIn_app (goodIn_of _ (by decide +kernel)) ggX9_bySums_X9_cells
set_option maxRecDepth 20000 in
theorem ggX9_bySums_X9_endOf : GoodIn wsX9_bySums wsX9_endOf := goodIn_r _ [36, 6, 8, 15, 16, 17, 4, 18, 19, 13, 20, 21, 14, 22, 23, 9, 10, 11, 12, 24, 25, 26, 27, 28, 29, 30, 31, 32, 37, 38, 39, 40, 41, 42, 43, 44, 45, 46, 47, 48, 49, 50, 51, 52, 53, 54, 55, 56, 57, 58, 59, 60, 61, 62] (by decide +kernel) (by decide +kernel)
set_option maxRecDepth 20000 in
theorem gX9_bySums_X9_endOf : GoodIn wsX9_bySums (wsV RX9 184 RX9 yX9_endOf wsX9_endOf) := goodIn_app (goodIn_of _ (by decide +kernel)) ggX9_bySums_X9_endOf
theorem dX9_bySums_0 : decode cX9_bySums 0 = .ok (.aload_n 0, 1) := by decide +kernel
theorem dX9_bySums_1 : decode cX9_bySums 1 = .ok (.invokevirtual 181, 3) := by decide +kernel
theorem dX9_bySums_4 : decode cX9_bySums 4 = .ok (.aload_n 0, 1) := by decide +kernel
theorem dX9_bySums_5 : decode cX9_bySums 5 = .ok (.invokevirtual 177, 3) := by decide +kernel
theorem dX9_bySums_8 : decode cX9_bySums 8 = .ok (.ifCond .ne 5, 3) := by decide +kernel
theorem dX9_bySums_11 : decode cX9_bySums 11 = .ok (.iconst 0, 1) := by decide +kernel
theorem dX9_bySums_12 : decode cX9_bySums 12 = .ok (.ireturn, 1) := by decide +kernel
theorem dX9_bySums_13 : decode cX9_bySums 13 = .ok (.iconst 1, 1) := by decide +kernel
theorem dX9_bySums_14 : decode cX9_bySums 14 = .ok (.istore_n 1, 1) := by decide +kernel
theorem dX9_bySums_15 : decode cX9_bySums 15 = .ok (.iconst 0, 1) := by decide +kernel
theorem dX9_bySums_16 : decode cX9_bySums 16 = .ok (.istore_n 2, 1) := by decide +kernel
theorem dX9_bySums_17 : decode cX9_bySums 17 = .ok (.iload_n 2, 1) := by decide +kernel
theorem dX9_bySums_18 : decode cX9_bySums 18 = .ok (.aload_n 0, 1) := by decide +kernel
theorem dX9_bySums_19 : decode cX9_bySums 19 = .ok (.invokevirtual 97, 3) := by decide +kernel
theorem dX9_bySums_22 : decode cX9_bySums 22 = .ok (.if_icmp .ge 34, 3) := by decide +kernel
theorem dX9_bySums_25 : decode cX9_bySums 25 = .ok (.iload_n 1, 1) := by decide +kernel
theorem dX9_bySums_26 : decode cX9_bySums 26 = .ok (.ifCond .eq 30, 3) := by decide +kernel
theorem dX9_bySums_29 : decode cX9_bySums 29 = .ok (.aload_n 0, 1) := by decide +kernel
theorem dX9_bySums_30 : decode cX9_bySums 30 = .ok (.iload_n 2, 1) := by decide +kernel
theorem dX9_bySums_31 : decode cX9_bySums 31 = .ok (.iconst 0, 1) := by decide +kernel
theorem dX9_bySums_32 : decode cX9_bySums 32 = .ok (.invokevirtual 184, 3) := by decide +kernel
theorem dX9_bySums_35 : decode cX9_bySums 35 = .ok (.aload_n 0, 1) := by decide +kernel
theorem dX9_bySums_36 : decode cX9_bySums 36 = .ok (.iload_n 2, 1) := by decide +kernel
theorem dX9_bySums_37 : decode cX9_bySums 37 = .ok (.iconst 1, 1) := by decide +kernel
theorem dX9_bySums_38 : decode cX9_bySums 38 = .ok (.invokevirtual 184, 3) := by decide +kernel
theorem dX9_bySums_41 : decode cX9_bySums 41 = .ok (.if_icmp .ne 7, 3) := by decide +kernel
theorem dX9_bySums_44 : decode cX9_bySums 44 = .ok (.iconst 1, 1) := by decide +kernel
theorem dX9_bySums_45 : decode cX9_bySums 45 = .ok (.goto 4, 3) := by decide +kernel
theorem dX9_bySums_48 : decode cX9_bySums 48 = .ok (.iconst 0, 1) := by decide +kernel
theorem dX9_bySums_49 : decode cX9_bySums 49 = .ok (.istore_n 1, 1) := by decide +kernel
theorem dX9_bySums_50 : decode cX9_bySums 50 = .ok (.iinc 2 1, 3) := by decide +kernel
theorem dX9_bySums_53 : decode cX9_bySums 53 = .ok (.goto (-36), 3) := by decide +kernel
theorem dX9_bySums_56 : decode cX9_bySums 56 = .ok (.iload_n 1, 1) := by decide +kernel
theorem dX9_bySums_57 : decode cX9_bySums 57 = .ok (.ifCond .eq 7, 3) := by decide +kernel
theorem dX9_bySums_60 : decode cX9_bySums 60 = .ok (.iconst 1, 1) := by decide +kernel
theorem dX9_bySums_61 : decode cX9_bySums 61 = .ok (.goto 4, 3) := by decide +kernel
theorem dX9_bySums_64 : decode cX9_bySums 64 = .ok (.iconst 2, 1) := by decide +kernel
theorem dX9_bySums_65 : decode cX9_bySums 65 = .ok (.ireturn, 1) := by decide +kernel
set_option maxRecDepth 20000 in
theorem ggX9_laySums_X9_isSlot : GoodIn wsX9_laySums wsX9_isSlot := goodIn_r _ [7, 8, 9, 10, 6, 11] (by decide +kernel) (by decide +kernel)
set_option maxRecDepth 20000 in
theorem gX9_laySums_X9_isSlot : GoodIn wsX9_laySums (va_wsS RX9 103 yX9_isSlot wsX9_isSlot) := goodIn_app (goodIn_of _ (by decide +kernel)) ggX9_laySums_X9_isSlot
set_option maxRecDepth 20000 in
theorem ggX9_laySums_X9_layEnds : GoodIn wsX9_laySums wsX9_layEnds := goodIn_r _ [15, 1, 16, 2, 17, 18, 19, 6, 20, 21, 22, 49, 50, 51, 52, 53, 54, 55, 56, 57, 58, 59, 60, 61, 62, 63, 64, 65, 66, 67, 68, 69, 70, 71, 72, 73, 74] (by decide +kernel) (by decide +kernel)
set_option maxRecDepth 20000 in
theorem gX9_laySums_X9_layEnds : GoodIn wsX9_laySums (wsV RX9 181 RX9 yX9_layEnds wsX9_layEnds) := goodIn_app (goodIn_of _ (by decide +kernel)) ggX9_laySums_X9_layEnds
set_option maxRecDepth 20000 in
theorem ggX9_laySums_X9_canSum : GoodIn wsX9_laySums wsX9_canSum := goodIn_r _ [26, 27, 21, 28, 29, 22, 30, 31, 1, 2, 17, 18, 19, 6, 20, 32, 33, 34, 35, 36, 37, 38, 39, 40, 49, 50, 51, 52, 53, 54, 55, 56, 57, 58, 59, 60, 61, 62, 63, 64, 65, 66, 67, 68, 69, 70, 71, 72, 73, 74] (by decide +kernel) (by decide +kernel)
set_option maxRecDepth 20000 in
theorem gX9_laySums_X9_canSum : GoodIn wsX9_laySums (wsV RX9 177 RX9 yX9_canSum wsX9_canSum) := goodIn_app (goodIn_of _ (by decide +kernel)) ggX9_laySums_X9_canSum
set_option maxRecDepth 20000 in
theorem ggX9_laySums_X9_cells : GoodIn wsX9_laySums wsX9_cells := goodIn_r _ [20, 21, 22, 49, 50, 51, 52, 53, 54, 55, 56, 57, 58, 59, 60, 61, 62, 63, 64, 65, 66, 67, 68, 69, 70, 71, 72, 73, 74] (by decide +kernel) (by decide +kernel)
set_option maxRecDepth 20000 in
theorem gX9_laySums_X9_cells : GoodIn wsX9_laySums (wsV RX9 97 RX9 yX9_cells wsX9_cells) := goodIn_app (goodIn_of _ (by decide +kernel)) ggX9_laySums_X9_cells
set_option maxRecDepth 20000 in
theorem ggX9_laySums_X9_endOf : GoodIn wsX9_laySums wsX9_endOf := goodIn_r _ [44, 1, 2, 23, 24, 25, 6, 26, 27, 21, 28, 29, 22, 30, 31, 17, 18, 19, 20, 32, 33, 34, 35, 36, 37, 38, 39, 40, 49, 50, 51, 52, 53, 54, 55, 56, 57, 58, 59, 60, 61, 62, 63, 64, 65, 66, 67, 68, 69, 70, 71, 72, 73, 74] (by decide +kernel) (by decide +kernel)
set_option maxRecDepth 20000 in
theorem gX9_laySums_X9_endOf : GoodIn wsX9_laySums (wsV RX9 184 RX9 yX9_endOf wsX9_endOf) := goodIn_app (goodIn_of _ (by decide +kernel)) ggX9_laySums_X9_endOf
set_option maxRecDepth 20000 in
theorem ggX9_laySums_X9_cubesOf : GoodIn wsX9_laySums wsX9_cubesOf := goodIn_r _ [48, 3, 17, 18, 19, 6, 20, 21, 22, 49, 50, 51, 52, 53, 54, 55, 56, 57, 58, 59, 60, 61, 62, 63, 64, 65, 66, 67, 68, 69, 70, 71, 72, 73, 74] (by decide +kernel) (by decide +kernel)
set_option maxRecDepth 20000 in
theorem gX9_laySums_X9_cubesOf : GoodIn wsX9_laySums (wsV RX9 112 RX9 yX9_cubesOf wsX9_cubesOf) := goodIn_app (goodIn_of _ (by decide +kernel)) ggX9_laySums_X9_cubesOf
theorem dX9_laySums_0 : decode cX9_laySums 0 = .ok (.iload_n 1, 1) := by decide +kernel
theorem dX9_laySums_1 : decode cX9_laySums 1 = .ok (.invokestatic 103, 3) := by decide +kernel
theorem dX9_laySums_4 : decode cX9_laySums 4 = .ok (.ifCond .ne 5, 3) := by decide +kernel
theorem dX9_laySums_7 : decode cX9_laySums 7 = .ok (.iconst (-1), 1) := by decide +kernel
theorem dX9_laySums_8 : decode cX9_laySums 8 = .ok (.ireturn, 1) := by decide +kernel
theorem dX9_laySums_9 : decode cX9_laySums 9 = .ok (.aload_n 0, 1) := by decide +kernel
theorem dX9_laySums_10 : decode cX9_laySums 10 = .ok (.invokevirtual 181, 3) := by decide +kernel
theorem dX9_laySums_13 : decode cX9_laySums 13 = .ok (.aload_n 0, 1) := by decide +kernel
theorem dX9_laySums_14 : decode cX9_laySums 14 = .ok (.invokevirtual 177, 3) := by decide +kernel
theorem dX9_laySums_17 : decode cX9_laySums 17 = .ok (.ifCond .ne 6, 3) := by decide +kernel
theorem dX9_laySums_20 : decode cX9_laySums 20 = .ok (.bipush (-3), 2) := by decide +kernel
theorem dX9_laySums_22 : decode cX9_laySums 22 = .ok (.ireturn, 1) := by decide +kernel
theorem dX9_laySums_23 : decode cX9_laySums 23 = .ok (.iconst 0, 1) := by decide +kernel
theorem dX9_laySums_24 : decode cX9_laySums 24 = .ok (.istore_n 2, 1) := by decide +kernel
theorem dX9_laySums_25 : decode cX9_laySums 25 = .ok (.iload_n 2, 1) := by decide +kernel
theorem dX9_laySums_26 : decode cX9_laySums 26 = .ok (.aload_n 0, 1) := by decide +kernel
theorem dX9_laySums_27 : decode cX9_laySums 27 = .ok (.invokevirtual 97, 3) := by decide +kernel
theorem dX9_laySums_30 : decode cX9_laySums 30 = .ok (.if_icmp .ge 42, 3) := by decide +kernel
theorem dX9_laySums_33 : decode cX9_laySums 33 = .ok (.aload_n 0, 1) := by decide +kernel
theorem dX9_laySums_34 : decode cX9_laySums 34 = .ok (.iload_n 2, 1) := by decide +kernel
theorem dX9_laySums_35 : decode cX9_laySums 35 = .ok (.iconst 0, 1) := by decide +kernel
theorem dX9_laySums_36 : decode cX9_laySums 36 = .ok (.invokevirtual 184, 3) := by decide +kernel
theorem dX9_laySums_39 : decode cX9_laySums 39 = .ok (.istore_n 3, 1) := by decide +kernel
theorem dX9_laySums_40 : decode cX9_laySums 40 = .ok (.aload_n 0, 1) := by decide +kernel
theorem dX9_laySums_41 : decode cX9_laySums 41 = .ok (.getfield 42, 3) := by decide +kernel
theorem dX9_laySums_44 : decode cX9_laySums 44 = .ok (.iload_n 2, 1) := by decide +kernel
theorem dX9_laySums_45 : decode cX9_laySums 45 = .ok (.iload_n 3, 1) := by decide +kernel
theorem dX9_laySums_46 : decode cX9_laySums 46 = .ok (.iastore, 1) := by decide +kernel
theorem dX9_laySums_47 : decode cX9_laySums 47 = .ok (.aload_n 0, 1) := by decide +kernel
theorem dX9_laySums_48 : decode cX9_laySums 48 = .ok (.getfield 45, 3) := by decide +kernel
theorem dX9_laySums_51 : decode cX9_laySums 51 = .ok (.iload_n 2, 1) := by decide +kernel
theorem dX9_laySums_52 : decode cX9_laySums 52 = .ok (.iload_n 3, 1) := by decide +kernel
theorem dX9_laySums_53 : decode cX9_laySums 53 = .ok (.iastore, 1) := by decide +kernel
theorem dX9_laySums_54 : decode cX9_laySums 54 = .ok (.aload_n 0, 1) := by decide +kernel
theorem dX9_laySums_55 : decode cX9_laySums 55 = .ok (.getfield 7, 3) := by decide +kernel
theorem dX9_laySums_58 : decode cX9_laySums 58 = .ok (.bipush 25, 2) := by decide +kernel
theorem dX9_laySums_60 : decode cX9_laySums 60 = .ok (.iload_n 1, 1) := by decide +kernel
theorem dX9_laySums_61 : decode cX9_laySums 61 = .ok (.imul, 1) := by decide +kernel
theorem dX9_laySums_62 : decode cX9_laySums 62 = .ok (.iload_n 2, 1) := by decide +kernel
theorem dX9_laySums_63 : decode cX9_laySums 63 = .ok (.iadd, 1) := by decide +kernel
theorem dX9_laySums_64 : decode cX9_laySums 64 = .ok (.iload_n 3, 1) := by decide +kernel
theorem dX9_laySums_65 : decode cX9_laySums 65 = .ok (.iastore, 1) := by decide +kernel
theorem dX9_laySums_66 : decode cX9_laySums 66 = .ok (.iinc 2 1, 3) := by decide +kernel
theorem dX9_laySums_69 : decode cX9_laySums 69 = .ok (.goto (-44), 3) := by decide +kernel
theorem dX9_laySums_72 : decode cX9_laySums 72 = .ok (.aload_n 0, 1) := by decide +kernel
theorem dX9_laySums_73 : decode cX9_laySums 73 = .ok (.iload_n 1, 1) := by decide +kernel
theorem dX9_laySums_74 : decode cX9_laySums 74 = .ok (.invokevirtual 112, 3) := by decide +kernel
theorem dX9_laySums_77 : decode cX9_laySums 77 = .ok (.ireturn, 1) := by decide +kernel
set_option maxRecDepth 20000 in
theorem ggX9_spanSums_X9_isCell : GoodIn wsX9_spanSums wsX9_isCell := goodIn_r _ [5, 6, 7, 8, 4, 9, 10, 11, 12, 13, 14, 44, 45, 46, 47, 48, 49, 50, 51, 52, 53, 54, 55, 56, 57, 58, 59, 60, 61, 62, 63, 64, 65, 66, 67, 68, 69] (by decide +kernel) (by decide +kernel)
set_option maxRecDepth 20000 in
theorem gX9_spanSums_X9_isCell : GoodIn wsX9_spanSums (wsV RX9 107 RX9 yX9_isCell wsX9_isCell) := goodIn_app (goodIn_of _ (by decide +kernel)) ggX9_spanSums_X9_isCell
set_option maxRecDepth 20000 in
theorem ggX9_spanSums_X9_layEnds : GoodIn wsX9_spanSums wsX9_layEnds := goodIn_r _ [18, 19, 20, 21, 6, 7, 8, 4, 9, 10, 11, 44, 45, 46, 47, 48, 49, 50, 51, 52, 53, 54, 55, 56, 57, 58, 59, 60, 61, 62, 63, 64, 65, 66, 67, 68, 69] (by decide +kernel) (by decide +kernel)
set_option maxRecDepth 20000 in
theorem gX9_spanSums_X9_layEnds : GoodIn wsX9_spanSums (wsV RX9 181 RX9 yX9_layEnds wsX9_layEnds) := goodIn_app (goodIn_of _ (by decide +kernel)) ggX9_spanSums_X9_layEnds
set_option maxRecDepth 20000 in
theorem ggX9_spanSums_X9_endOf : GoodIn wsX9_spanSums wsX9_endOf := goodIn_r _ [25, 19, 21, 26, 27, 28, 4, 29, 30, 10, 31, 32, 11, 33, 34, 6, 7, 8, 9, 35, 36, 37, 38, 39, 40, 41, 42, 43, 44, 45, 46, 47, 48, 49, 50, 51, 52, 53, 54, 55, 56, 57, 58, 59, 60, 61, 62, 63, 64, 65, 66, 67, 68, 69] (by decide +kernel) (by decide +kernel)
set_option maxRecDepth 20000 in
theorem gX9_spanSums_X9_endOf : GoodIn wsX9_spanSums (wsV RX9 184 RX9 yX9_endOf wsX9_endOf) := goodIn_app (goodIn_of _ (by decide +kernel)) ggX9_spanSums_X9_endOf
theorem dX9_spanSums_0 : decode cX9_spanSums 0 = .ok (.aload_n 0, 1) := by decide +kernel
theorem dX9_spanSums_1 : decode cX9_spanSums 1 = .ok (.iload_n 1, 1) := by decide +kernel
theorem dX9_spanSums_2 : decode cX9_spanSums 2 = .ok (.invokevirtual 107, 3) := by decide +kernel
theorem dX9_spanSums_5 : decode cX9_spanSums 5 = .ok (.ifCond .ne 5, 3) := by decide +kernel
theorem dX9_spanSums_8 : decode cX9_spanSums 8 = .ok (.iconst (-1), 1) := by decide +kernel
theorem dX9_spanSums_9 : decode cX9_spanSums 9 = .ok (.ireturn, 1) := by decide +kernel
theorem dX9_spanSums_10 : decode cX9_spanSums 10 = .ok (.aload_n 0, 1) := by decide +kernel
theorem dX9_spanSums_11 : decode cX9_spanSums 11 = .ok (.invokevirtual 181, 3) := by decide +kernel
theorem dX9_spanSums_14 : decode cX9_spanSums 14 = .ok (.aload_n 0, 1) := by decide +kernel
theorem dX9_spanSums_15 : decode cX9_spanSums 15 = .ok (.iload_n 1, 1) := by decide +kernel
theorem dX9_spanSums_16 : decode cX9_spanSums 16 = .ok (.iload_n 2, 1) := by decide +kernel
theorem dX9_spanSums_17 : decode cX9_spanSums 17 = .ok (.invokevirtual 184, 3) := by decide +kernel
theorem dX9_spanSums_20 : decode cX9_spanSums 20 = .ok (.ireturn, 1) := by decide +kernel
theorem dX9_steps_0 : decode cX9_steps 0 = .ok (.iload_n 1, 1) := by decide +kernel
theorem dX9_steps_1 : decode cX9_steps 1 = .ok (.aload_n 0, 1) := by decide +kernel
theorem dX9_steps_2 : decode cX9_steps 2 = .ok (.getfield 85, 3) := by decide +kernel
theorem dX9_steps_5 : decode cX9_steps 5 = .ok (.irem, 1) := by decide +kernel
theorem dX9_steps_6 : decode cX9_steps 6 = .ok (.iload_n 2, 1) := by decide +kernel
theorem dX9_steps_7 : decode cX9_steps 7 = .ok (.aload_n 0, 1) := by decide +kernel
theorem dX9_steps_8 : decode cX9_steps 8 = .ok (.getfield 85, 3) := by decide +kernel
theorem dX9_steps_11 : decode cX9_steps 11 = .ok (.irem, 1) := by decide +kernel
theorem dX9_steps_12 : decode cX9_steps 12 = .ok (.isub, 1) := by decide +kernel
theorem dX9_steps_13 : decode cX9_steps 13 = .ok (.istore_n 3, 1) := by decide +kernel
theorem dX9_steps_14 : decode cX9_steps 14 = .ok (.iload_n 1, 1) := by decide +kernel
theorem dX9_steps_15 : decode cX9_steps 15 = .ok (.aload_n 0, 1) := by decide +kernel
theorem dX9_steps_16 : decode cX9_steps 16 = .ok (.getfield 85, 3) := by decide +kernel
theorem dX9_steps_19 : decode cX9_steps 19 = .ok (.idiv, 1) := by decide +kernel
theorem dX9_steps_20 : decode cX9_steps 20 = .ok (.iload_n 2, 1) := by decide +kernel
theorem dX9_steps_21 : decode cX9_steps 21 = .ok (.aload_n 0, 1) := by decide +kernel
theorem dX9_steps_22 : decode cX9_steps 22 = .ok (.getfield 85, 3) := by decide +kernel
theorem dX9_steps_25 : decode cX9_steps 25 = .ok (.idiv, 1) := by decide +kernel
theorem dX9_steps_26 : decode cX9_steps 26 = .ok (.isub, 1) := by decide +kernel
theorem dX9_steps_27 : decode cX9_steps 27 = .ok (.istore 4, 2) := by decide +kernel
theorem dX9_steps_29 : decode cX9_steps 29 = .ok (.iload_n 3, 1) := by decide +kernel
theorem dX9_steps_30 : decode cX9_steps 30 = .ok (.ifCond .ge 8, 3) := by decide +kernel
theorem dX9_steps_33 : decode cX9_steps 33 = .ok (.iload_n 3, 1) := by decide +kernel
theorem dX9_steps_34 : decode cX9_steps 34 = .ok (.ineg, 1) := by decide +kernel
theorem dX9_steps_35 : decode cX9_steps 35 = .ok (.goto 4, 3) := by decide +kernel
theorem dX9_steps_38 : decode cX9_steps 38 = .ok (.iload_n 3, 1) := by decide +kernel
theorem dX9_steps_39 : decode cX9_steps 39 = .ok (.iload 4, 2) := by decide +kernel
theorem dX9_steps_41 : decode cX9_steps 41 = .ok (.ifCond .ge 9, 3) := by decide +kernel
theorem dX9_steps_44 : decode cX9_steps 44 = .ok (.iload 4, 2) := by decide +kernel
theorem dX9_steps_46 : decode cX9_steps 46 = .ok (.ineg, 1) := by decide +kernel
theorem dX9_steps_47 : decode cX9_steps 47 = .ok (.goto 5, 3) := by decide +kernel
theorem dX9_steps_50 : decode cX9_steps 50 = .ok (.iload 4, 2) := by decide +kernel
theorem dX9_steps_52 : decode cX9_steps 52 = .ok (.iadd, 1) := by decide +kernel
theorem dX9_steps_53 : decode cX9_steps 53 = .ok (.ireturn, 1) := by decide +kernel
set_option maxRecDepth 20000 in
theorem ggX9_layFar_X9_cells : GoodIn wsX9_layFar wsX9_cells := goodIn_r _ [11, 12, 13, 18, 19, 20, 21, 22, 23, 24, 25, 26, 27, 28, 29, 30, 31, 32, 33, 34, 35, 36, 37, 38, 39, 40, 41, 42, 43] (by decide +kernel) (by decide +kernel)
set_option maxRecDepth 20000 in
theorem gX9_layFar_X9_cells : GoodIn wsX9_layFar (wsV RX9 97 RX9 yX9_cells wsX9_cells) := goodIn_app (goodIn_of _ (by decide +kernel)) ggX9_layFar_X9_cells
set_option maxRecDepth 20000 in
theorem ggX9_layFar_X9_steps : GoodIn wsX9_layFar wsX9_steps := goodIn_r _ [17, 12, 18, 19, 20, 21, 22, 23, 24, 25, 26, 27, 28, 29, 30, 31, 32, 33, 34, 35, 36, 37, 38, 39, 40, 41, 42, 43] (by decide +kernel) (by decide +kernel)
set_option maxRecDepth 20000 in
theorem gX9_layFar_X9_steps : GoodIn wsX9_layFar (wsV RX9 189 RX9 yX9_steps wsX9_steps) := goodIn_app (goodIn_of _ (by decide +kernel)) ggX9_layFar_X9_steps
theorem dX9_layFar_0 : decode cX9_layFar 0 = .ok (.iconst 0, 1) := by decide +kernel
theorem dX9_layFar_1 : decode cX9_layFar 1 = .ok (.istore_n 1, 1) := by decide +kernel
theorem dX9_layFar_2 : decode cX9_layFar 2 = .ok (.iload_n 1, 1) := by decide +kernel
theorem dX9_layFar_3 : decode cX9_layFar 3 = .ok (.bipush 52, 2) := by decide +kernel
theorem dX9_layFar_5 : decode cX9_layFar 5 = .ok (.if_icmp .ge 17, 3) := by decide +kernel
theorem dX9_layFar_8 : decode cX9_layFar 8 = .ok (.aload_n 0, 1) := by decide +kernel
theorem dX9_layFar_9 : decode cX9_layFar 9 = .ok (.getfield 69, 3) := by decide +kernel
theorem dX9_layFar_12 : decode cX9_layFar 12 = .ok (.iload_n 1, 1) := by decide +kernel
theorem dX9_layFar_13 : decode cX9_layFar 13 = .ok (.ldc 188, 2) := by decide +kernel
theorem dX9_layFar_15 : decode cX9_layFar 15 = .ok (.iastore, 1) := by decide +kernel
theorem dX9_layFar_16 : decode cX9_layFar 16 = .ok (.iinc 1 1, 3) := by decide +kernel
theorem dX9_layFar_19 : decode cX9_layFar 19 = .ok (.goto (-17), 3) := by decide +kernel
theorem dX9_layFar_22 : decode cX9_layFar 22 = .ok (.iconst 0, 1) := by decide +kernel
theorem dX9_layFar_23 : decode cX9_layFar 23 = .ok (.istore_n 1, 1) := by decide +kernel
theorem dX9_layFar_24 : decode cX9_layFar 24 = .ok (.iload_n 1, 1) := by decide +kernel
theorem dX9_layFar_25 : decode cX9_layFar 25 = .ok (.aload_n 0, 1) := by decide +kernel
theorem dX9_layFar_26 : decode cX9_layFar 26 = .ok (.invokevirtual 97, 3) := by decide +kernel
theorem dX9_layFar_29 : decode cX9_layFar 29 = .ok (.if_icmp .ge 36, 3) := by decide +kernel
theorem dX9_layFar_32 : decode cX9_layFar 32 = .ok (.aload_n 0, 1) := by decide +kernel
theorem dX9_layFar_33 : decode cX9_layFar 33 = .ok (.getfield 60, 3) := by decide +kernel
theorem dX9_layFar_36 : decode cX9_layFar 36 = .ok (.iload_n 1, 1) := by decide +kernel
theorem dX9_layFar_37 : decode cX9_layFar 37 = .ok (.iaload, 1) := by decide +kernel
theorem dX9_layFar_38 : decode cX9_layFar 38 = .ok (.ifCond .le 21, 3) := by decide +kernel
theorem dX9_layFar_41 : decode cX9_layFar 41 = .ok (.aload_n 0, 1) := by decide +kernel
theorem dX9_layFar_42 : decode cX9_layFar 42 = .ok (.getfield 69, 3) := by decide +kernel
theorem dX9_layFar_45 : decode cX9_layFar 45 = .ok (.iconst 1, 1) := by decide +kernel
theorem dX9_layFar_46 : decode cX9_layFar 46 = .ok (.iload_n 1, 1) := by decide +kernel
theorem dX9_layFar_47 : decode cX9_layFar 47 = .ok (.iadd, 1) := by decide +kernel
theorem dX9_layFar_48 : decode cX9_layFar 48 = .ok (.iconst 0, 1) := by decide +kernel
theorem dX9_layFar_49 : decode cX9_layFar 49 = .ok (.iastore, 1) := by decide +kernel
theorem dX9_layFar_50 : decode cX9_layFar 50 = .ok (.aload_n 0, 1) := by decide +kernel
theorem dX9_layFar_51 : decode cX9_layFar 51 = .ok (.getfield 72, 3) := by decide +kernel
theorem dX9_layFar_54 : decode cX9_layFar 54 = .ok (.iconst 1, 1) := by decide +kernel
theorem dX9_layFar_55 : decode cX9_layFar 55 = .ok (.iload_n 1, 1) := by decide +kernel
theorem dX9_layFar_56 : decode cX9_layFar 56 = .ok (.iadd, 1) := by decide +kernel
theorem dX9_layFar_57 : decode cX9_layFar 57 = .ok (.iconst 0, 1) := by decide +kernel
theorem dX9_layFar_58 : decode cX9_layFar 58 = .ok (.iastore, 1) := by decide +kernel
theorem dX9_layFar_59 : decode cX9_layFar 59 = .ok (.iinc 1 1, 3) := by decide +kernel
theorem dX9_layFar_62 : decode cX9_layFar 62 = .ok (.goto (-38), 3) := by decide +kernel
theorem dX9_layFar_65 : decode cX9_layFar 65 = .ok (.iconst 1, 1) := by decide +kernel
theorem dX9_layFar_66 : decode cX9_layFar 66 = .ok (.istore_n 1, 1) := by decide +kernel
theorem dX9_layFar_67 : decode cX9_layFar 67 = .ok (.iload_n 1, 1) := by decide +kernel
theorem dX9_layFar_68 : decode cX9_layFar 68 = .ok (.ifCond .eq 199, 3) := by decide +kernel
theorem dX9_layFar_71 : decode cX9_layFar 71 = .ok (.iconst 0, 1) := by decide +kernel
theorem dX9_layFar_72 : decode cX9_layFar 72 = .ok (.istore_n 1, 1) := by decide +kernel
theorem dX9_layFar_73 : decode cX9_layFar 73 = .ok (.iconst 0, 1) := by decide +kernel
theorem dX9_layFar_74 : decode cX9_layFar 74 = .ok (.istore_n 2, 1) := by decide +kernel
theorem dX9_layFar_75 : decode cX9_layFar 75 = .ok (.iload_n 2, 1) := by decide +kernel
theorem dX9_layFar_76 : decode cX9_layFar 76 = .ok (.aload_n 0, 1) := by decide +kernel
theorem dX9_layFar_77 : decode cX9_layFar 77 = .ok (.invokevirtual 97, 3) := by decide +kernel
theorem dX9_layFar_80 : decode cX9_layFar 80 = .ok (.aload_n 0, 1) := by decide +kernel
theorem dX9_layFar_81 : decode cX9_layFar 81 = .ok (.invokevirtual 97, 3) := by decide +kernel
theorem dX9_layFar_84 : decode cX9_layFar 84 = .ok (.imul, 1) := by decide +kernel
theorem dX9_layFar_85 : decode cX9_layFar 85 = .ok (.if_icmp .ge 179, 3) := by decide +kernel
theorem dX9_layFar_88 : decode cX9_layFar 88 = .ok (.iload_n 2, 1) := by decide +kernel
theorem dX9_layFar_89 : decode cX9_layFar 89 = .ok (.aload_n 0, 1) := by decide +kernel
theorem dX9_layFar_90 : decode cX9_layFar 90 = .ok (.invokevirtual 97, 3) := by decide +kernel
theorem dX9_layFar_93 : decode cX9_layFar 93 = .ok (.idiv, 1) := by decide +kernel
theorem dX9_layFar_94 : decode cX9_layFar 94 = .ok (.istore_n 3, 1) := by decide +kernel
theorem dX9_layFar_95 : decode cX9_layFar 95 = .ok (.iload_n 2, 1) := by decide +kernel
theorem dX9_layFar_96 : decode cX9_layFar 96 = .ok (.aload_n 0, 1) := by decide +kernel
theorem dX9_layFar_97 : decode cX9_layFar 97 = .ok (.invokevirtual 97, 3) := by decide +kernel
theorem dX9_layFar_100 : decode cX9_layFar 100 = .ok (.irem, 1) := by decide +kernel
theorem dX9_layFar_101 : decode cX9_layFar 101 = .ok (.istore 4, 2) := by decide +kernel
theorem dX9_layFar_103 : decode cX9_layFar 103 = .ok (.aload_n 0, 1) := by decide +kernel
theorem dX9_layFar_104 : decode cX9_layFar 104 = .ok (.getfield 69, 3) := by decide +kernel
theorem dX9_layFar_107 : decode cX9_layFar 107 = .ok (.iconst 1, 1) := by decide +kernel
theorem dX9_layFar_108 : decode cX9_layFar 108 = .ok (.iload_n 3, 1) := by decide +kernel
theorem dX9_layFar_109 : decode cX9_layFar 109 = .ok (.iadd, 1) := by decide +kernel
theorem dX9_layFar_110 : decode cX9_layFar 110 = .ok (.iaload, 1) := by decide +kernel
theorem dX9_layFar_111 : decode cX9_layFar 111 = .ok (.aload_n 0, 1) := by decide +kernel
theorem dX9_layFar_112 : decode cX9_layFar 112 = .ok (.iload_n 3, 1) := by decide +kernel
theorem dX9_layFar_113 : decode cX9_layFar 113 = .ok (.iload 4, 2) := by decide +kernel
theorem dX9_layFar_115 : decode cX9_layFar 115 = .ok (.invokevirtual 189, 3) := by decide +kernel
theorem dX9_layFar_118 : decode cX9_layFar 118 = .ok (.iadd, 1) := by decide +kernel
theorem dX9_layFar_119 : decode cX9_layFar 119 = .ok (.aload_n 0, 1) := by decide +kernel
theorem dX9_layFar_120 : decode cX9_layFar 120 = .ok (.getfield 69, 3) := by decide +kernel
theorem dX9_layFar_123 : decode cX9_layFar 123 = .ok (.bipush 26, 2) := by decide +kernel
theorem dX9_layFar_125 : decode cX9_layFar 125 = .ok (.iload 4, 2) := by decide +kernel
theorem dX9_layFar_127 : decode cX9_layFar 127 = .ok (.iadd, 1) := by decide +kernel
theorem dX9_layFar_128 : decode cX9_layFar 128 = .ok (.iaload, 1) := by decide +kernel
theorem dX9_layFar_129 : decode cX9_layFar 129 = .ok (.if_icmp .ge 44, 3) := by decide +kernel
theorem dX9_layFar_132 : decode cX9_layFar 132 = .ok (.aload_n 0, 1) := by decide +kernel
theorem dX9_layFar_133 : decode cX9_layFar 133 = .ok (.getfield 69, 3) := by decide +kernel
theorem dX9_layFar_136 : decode cX9_layFar 136 = .ok (.bipush 26, 2) := by decide +kernel
theorem dX9_layFar_138 : decode cX9_layFar 138 = .ok (.iload 4, 2) := by decide +kernel
theorem dX9_layFar_140 : decode cX9_layFar 140 = .ok (.iadd, 1) := by decide +kernel
theorem dX9_layFar_141 : decode cX9_layFar 141 = .ok (.aload_n 0, 1) := by decide +kernel
theorem dX9_layFar_142 : decode cX9_layFar 142 = .ok (.getfield 69, 3) := by decide +kernel
theorem dX9_layFar_145 : decode cX9_layFar 145 = .ok (.iconst 1, 1) := by decide +kernel
theorem dX9_layFar_146 : decode cX9_layFar 146 = .ok (.iload_n 3, 1) := by decide +kernel
theorem dX9_layFar_147 : decode cX9_layFar 147 = .ok (.iadd, 1) := by decide +kernel
theorem dX9_layFar_148 : decode cX9_layFar 148 = .ok (.iaload, 1) := by decide +kernel
theorem dX9_layFar_149 : decode cX9_layFar 149 = .ok (.aload_n 0, 1) := by decide +kernel
theorem dX9_layFar_150 : decode cX9_layFar 150 = .ok (.iload_n 3, 1) := by decide +kernel
theorem dX9_layFar_151 : decode cX9_layFar 151 = .ok (.iload 4, 2) := by decide +kernel
theorem dX9_layFar_153 : decode cX9_layFar 153 = .ok (.invokevirtual 189, 3) := by decide +kernel
theorem dX9_layFar_156 : decode cX9_layFar 156 = .ok (.iadd, 1) := by decide +kernel
theorem dX9_layFar_157 : decode cX9_layFar 157 = .ok (.iastore, 1) := by decide +kernel
theorem dX9_layFar_158 : decode cX9_layFar 158 = .ok (.aload_n 0, 1) := by decide +kernel
theorem dX9_layFar_159 : decode cX9_layFar 159 = .ok (.getfield 72, 3) := by decide +kernel
theorem dX9_layFar_162 : decode cX9_layFar 162 = .ok (.bipush 26, 2) := by decide +kernel
theorem dX9_layFar_164 : decode cX9_layFar 164 = .ok (.iload 4, 2) := by decide +kernel
theorem dX9_layFar_166 : decode cX9_layFar 166 = .ok (.iadd, 1) := by decide +kernel
theorem dX9_layFar_167 : decode cX9_layFar 167 = .ok (.iconst 1, 1) := by decide +kernel
theorem dX9_layFar_168 : decode cX9_layFar 168 = .ok (.iload_n 3, 1) := by decide +kernel
theorem dX9_layFar_169 : decode cX9_layFar 169 = .ok (.iadd, 1) := by decide +kernel
theorem dX9_layFar_170 : decode cX9_layFar 170 = .ok (.iastore, 1) := by decide +kernel
theorem dX9_layFar_171 : decode cX9_layFar 171 = .ok (.iconst 1, 1) := by decide +kernel
theorem dX9_layFar_172 : decode cX9_layFar 172 = .ok (.istore_n 1, 1) := by decide +kernel
theorem dX9_layFar_173 : decode cX9_layFar 173 = .ok (.aload_n 0, 1) := by decide +kernel
theorem dX9_layFar_174 : decode cX9_layFar 174 = .ok (.getfield 66, 3) := by decide +kernel
theorem dX9_layFar_177 : decode cX9_layFar 177 = .ok (.bipush 25, 2) := by decide +kernel
theorem dX9_layFar_179 : decode cX9_layFar 179 = .ok (.iload_n 3, 1) := by decide +kernel
theorem dX9_layFar_180 : decode cX9_layFar 180 = .ok (.imul, 1) := by decide +kernel
theorem dX9_layFar_181 : decode cX9_layFar 181 = .ok (.iload 4, 2) := by decide +kernel
theorem dX9_layFar_183 : decode cX9_layFar 183 = .ok (.iadd, 1) := by decide +kernel
theorem dX9_layFar_184 : decode cX9_layFar 184 = .ok (.iaload, 1) := by decide +kernel
theorem dX9_layFar_185 : decode cX9_layFar 185 = .ok (.ifCond .le 73, 3) := by decide +kernel
theorem dX9_layFar_188 : decode cX9_layFar 188 = .ok (.aload_n 0, 1) := by decide +kernel
theorem dX9_layFar_189 : decode cX9_layFar 189 = .ok (.getfield 69, 3) := by decide +kernel
theorem dX9_layFar_192 : decode cX9_layFar 192 = .ok (.bipush 26, 2) := by decide +kernel
theorem dX9_layFar_194 : decode cX9_layFar 194 = .ok (.iload 4, 2) := by decide +kernel
theorem dX9_layFar_196 : decode cX9_layFar 196 = .ok (.iadd, 1) := by decide +kernel
theorem dX9_layFar_197 : decode cX9_layFar 197 = .ok (.iaload, 1) := by decide +kernel
theorem dX9_layFar_198 : decode cX9_layFar 198 = .ok (.aload_n 0, 1) := by decide +kernel
theorem dX9_layFar_199 : decode cX9_layFar 199 = .ok (.iload_n 3, 1) := by decide +kernel
theorem dX9_layFar_200 : decode cX9_layFar 200 = .ok (.iload 4, 2) := by decide +kernel
theorem dX9_layFar_202 : decode cX9_layFar 202 = .ok (.invokevirtual 189, 3) := by decide +kernel
theorem dX9_layFar_205 : decode cX9_layFar 205 = .ok (.isub, 1) := by decide +kernel
theorem dX9_layFar_206 : decode cX9_layFar 206 = .ok (.aload_n 0, 1) := by decide +kernel
theorem dX9_layFar_207 : decode cX9_layFar 207 = .ok (.getfield 69, 3) := by decide +kernel
theorem dX9_layFar_210 : decode cX9_layFar 210 = .ok (.iconst 1, 1) := by decide +kernel
theorem dX9_layFar_211 : decode cX9_layFar 211 = .ok (.iload_n 3, 1) := by decide +kernel
theorem dX9_layFar_212 : decode cX9_layFar 212 = .ok (.iadd, 1) := by decide +kernel
theorem dX9_layFar_213 : decode cX9_layFar 213 = .ok (.iaload, 1) := by decide +kernel
theorem dX9_layFar_214 : decode cX9_layFar 214 = .ok (.if_icmp .ge 44, 3) := by decide +kernel
theorem dX9_layFar_217 : decode cX9_layFar 217 = .ok (.aload_n 0, 1) := by decide +kernel
theorem dX9_layFar_218 : decode cX9_layFar 218 = .ok (.getfield 69, 3) := by decide +kernel
theorem dX9_layFar_221 : decode cX9_layFar 221 = .ok (.iconst 1, 1) := by decide +kernel
theorem dX9_layFar_222 : decode cX9_layFar 222 = .ok (.iload_n 3, 1) := by decide +kernel
theorem dX9_layFar_223 : decode cX9_layFar 223 = .ok (.iadd, 1) := by decide +kernel
theorem dX9_layFar_224 : decode cX9_layFar 224 = .ok (.aload_n 0, 1) := by decide +kernel
theorem dX9_layFar_225 : decode cX9_layFar 225 = .ok (.getfield 69, 3) := by decide +kernel
theorem dX9_layFar_228 : decode cX9_layFar 228 = .ok (.bipush 26, 2) := by decide +kernel
theorem dX9_layFar_230 : decode cX9_layFar 230 = .ok (.iload 4, 2) := by decide +kernel
theorem dX9_layFar_232 : decode cX9_layFar 232 = .ok (.iadd, 1) := by decide +kernel
theorem dX9_layFar_233 : decode cX9_layFar 233 = .ok (.iaload, 1) := by decide +kernel
theorem dX9_layFar_234 : decode cX9_layFar 234 = .ok (.aload_n 0, 1) := by decide +kernel
theorem dX9_layFar_235 : decode cX9_layFar 235 = .ok (.iload_n 3, 1) := by decide +kernel
theorem dX9_layFar_236 : decode cX9_layFar 236 = .ok (.iload 4, 2) := by decide +kernel
theorem dX9_layFar_238 : decode cX9_layFar 238 = .ok (.invokevirtual 189, 3) := by decide +kernel
theorem dX9_layFar_241 : decode cX9_layFar 241 = .ok (.isub, 1) := by decide +kernel
theorem dX9_layFar_242 : decode cX9_layFar 242 = .ok (.iastore, 1) := by decide +kernel
theorem dX9_layFar_243 : decode cX9_layFar 243 = .ok (.aload_n 0, 1) := by decide +kernel
theorem dX9_layFar_244 : decode cX9_layFar 244 = .ok (.getfield 72, 3) := by decide +kernel
theorem dX9_layFar_247 : decode cX9_layFar 247 = .ok (.iconst 1, 1) := by decide +kernel
theorem dX9_layFar_248 : decode cX9_layFar 248 = .ok (.iload_n 3, 1) := by decide +kernel
theorem dX9_layFar_249 : decode cX9_layFar 249 = .ok (.iadd, 1) := by decide +kernel
theorem dX9_layFar_250 : decode cX9_layFar 250 = .ok (.bipush 26, 2) := by decide +kernel
theorem dX9_layFar_252 : decode cX9_layFar 252 = .ok (.iload 4, 2) := by decide +kernel
theorem dX9_layFar_254 : decode cX9_layFar 254 = .ok (.iadd, 1) := by decide +kernel
theorem dX9_layFar_255 : decode cX9_layFar 255 = .ok (.iastore, 1) := by decide +kernel
theorem dX9_layFar_256 : decode cX9_layFar 256 = .ok (.iconst 1, 1) := by decide +kernel
theorem dX9_layFar_257 : decode cX9_layFar 257 = .ok (.istore_n 1, 1) := by decide +kernel
theorem dX9_layFar_258 : decode cX9_layFar 258 = .ok (.iinc 2 1, 3) := by decide +kernel
theorem dX9_layFar_261 : decode cX9_layFar 261 = .ok (.goto (-186), 3) := by decide +kernel
theorem dX9_layFar_264 : decode cX9_layFar 264 = .ok (.goto (-197), 3) := by decide +kernel
theorem dX9_layFar_267 : decode cX9_layFar 267 = .ok (.bipush (-9), 2) := by decide +kernel
theorem dX9_layFar_269 : decode cX9_layFar 269 = .ok (.istore_n 2, 1) := by decide +kernel
theorem dX9_layFar_270 : decode cX9_layFar 270 = .ok (.iconst 0, 1) := by decide +kernel
theorem dX9_layFar_271 : decode cX9_layFar 271 = .ok (.istore_n 3, 1) := by decide +kernel
theorem dX9_layFar_272 : decode cX9_layFar 272 = .ok (.iload_n 3, 1) := by decide +kernel
theorem dX9_layFar_273 : decode cX9_layFar 273 = .ok (.aload_n 0, 1) := by decide +kernel
theorem dX9_layFar_274 : decode cX9_layFar 274 = .ok (.invokevirtual 97, 3) := by decide +kernel
theorem dX9_layFar_277 : decode cX9_layFar 277 = .ok (.if_icmp .ge 65, 3) := by decide +kernel
theorem dX9_layFar_280 : decode cX9_layFar 280 = .ok (.aload_n 0, 1) := by decide +kernel
theorem dX9_layFar_281 : decode cX9_layFar 281 = .ok (.getfield 63, 3) := by decide +kernel
theorem dX9_layFar_284 : decode cX9_layFar 284 = .ok (.iload_n 3, 1) := by decide +kernel
theorem dX9_layFar_285 : decode cX9_layFar 285 = .ok (.iaload, 1) := by decide +kernel
theorem dX9_layFar_286 : decode cX9_layFar 286 = .ok (.ifCond .le 48, 3) := by decide +kernel
theorem dX9_layFar_289 : decode cX9_layFar 289 = .ok (.aload_n 0, 1) := by decide +kernel
theorem dX9_layFar_290 : decode cX9_layFar 290 = .ok (.getfield 69, 3) := by decide +kernel
theorem dX9_layFar_293 : decode cX9_layFar 293 = .ok (.bipush 26, 2) := by decide +kernel
theorem dX9_layFar_295 : decode cX9_layFar 295 = .ok (.iload_n 3, 1) := by decide +kernel
theorem dX9_layFar_296 : decode cX9_layFar 296 = .ok (.iadd, 1) := by decide +kernel
theorem dX9_layFar_297 : decode cX9_layFar 297 = .ok (.iaload, 1) := by decide +kernel
theorem dX9_layFar_298 : decode cX9_layFar 298 = .ok (.ldc 188, 2) := by decide +kernel
theorem dX9_layFar_300 : decode cX9_layFar 300 = .ok (.if_icmp .ge 34, 3) := by decide +kernel
theorem dX9_layFar_303 : decode cX9_layFar 303 = .ok (.iload_n 2, 1) := by decide +kernel
theorem dX9_layFar_304 : decode cX9_layFar 304 = .ok (.bipush (-9), 2) := by decide +kernel
theorem dX9_layFar_306 : decode cX9_layFar 306 = .ok (.if_icmp .eq 24, 3) := by decide +kernel
theorem dX9_layFar_309 : decode cX9_layFar 309 = .ok (.aload_n 0, 1) := by decide +kernel
theorem dX9_layFar_310 : decode cX9_layFar 310 = .ok (.getfield 69, 3) := by decide +kernel
theorem dX9_layFar_313 : decode cX9_layFar 313 = .ok (.bipush 26, 2) := by decide +kernel
theorem dX9_layFar_315 : decode cX9_layFar 315 = .ok (.iload_n 3, 1) := by decide +kernel
theorem dX9_layFar_316 : decode cX9_layFar 316 = .ok (.iadd, 1) := by decide +kernel
theorem dX9_layFar_317 : decode cX9_layFar 317 = .ok (.iaload, 1) := by decide +kernel
theorem dX9_layFar_318 : decode cX9_layFar 318 = .ok (.aload_n 0, 1) := by decide +kernel
