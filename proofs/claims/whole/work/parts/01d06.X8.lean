set_option maxRecDepth 20000 in
theorem ggX8_init_X2_init : GoodIn wsX8_init wsX2_init := goodIn_r _ [37, 38, 2, 3, 9, 39, 40, 41, 42, 43, 44, 6, 45, 46, 47, 48, 49, 50, 51, 52, 53, 54, 55, 56, 57, 58, 59, 60, 61, 148, 149, 150, 151, 152] (by decide +kernel) (by decide +kernel)
set_option maxRecDepth 20000 in
theorem gX8_init_X2_init : GoodIn wsX8_init (wsX2_init) := ggX8_init_X2_init
set_option maxRecDepth 20000 in
theorem ggX8_init_X7_init : GoodIn wsX8_init wsX7_init := goodIn_r _ [64, 65, 2, 3, 9, 66, 67, 68, 69, 161, 162, 163, 164] (by decide +kernel) (by decide +kernel)
set_option maxRecDepth 20000 in
theorem gX8_init_X7_init : GoodIn wsX8_init (wsX7_init) := ggX8_init_X7_init
set_option maxRecDepth 20000 in
theorem ggX8_init_X5_init : GoodIn wsX8_init wsX5_init := goodIn_r _ [72, 73, 2, 3, 74, 75, 76, 77, 9, 78, 79, 80, 81, 82, 83, 84, 85, 86, 87, 88, 89, 17, 90, 91, 92, 93, 94, 95, 96, 97, 98, 99, 199, 200, 165, 166, 167, 168, 169] (by decide +kernel) (by decide +kernel)
set_option maxRecDepth 20000 in
theorem gX8_init_X5_init : GoodIn wsX8_init (wsX5_init) := ggX8_init_X5_init
set_option maxRecDepth 20000 in
theorem ggX8_init_X1_init : GoodIn wsX8_init wsX1_init := goodIn_r _ [102, 103, 2, 3, 9, 104, 105, 106, 107, 108, 109, 110, 111, 112, 113, 114, 115, 170, 171, 172, 173, 174, 175, 176, 177, 178, 179] (by decide +kernel) (by decide +kernel)
set_option maxRecDepth 20000 in
theorem gX8_init_X1_init : GoodIn wsX8_init (wsX1_init) := ggX8_init_X1_init
set_option maxRecDepth 20000 in
theorem ggX8_init_X4_init : GoodIn wsX8_init wsX4_init := goodIn_r _ [118, 119, 2, 3, 120, 75, 76, 121, 9, 122, 123, 124, 125, 126, 127, 128, 129, 130, 82, 83, 84, 85, 86, 199, 200, 180, 181, 182, 183, 184, 185, 186, 187, 188, 189] (by decide +kernel) (by decide +kernel)
set_option maxRecDepth 20000 in
theorem gX8_init_X4_init : GoodIn wsX8_init (wsX4_init) := ggX8_init_X4_init
set_option maxRecDepth 20000 in
theorem ggX8_init_X0_init : GoodIn wsX8_init wsX0_init := goodIn_r _ [133, 134, 2, 3, 9, 135, 136, 137, 138, 139, 140, 190, 191, 192, 193, 194, 195] (by decide +kernel) (by decide +kernel)
set_option maxRecDepth 20000 in
theorem gX8_init_X0_init : GoodIn wsX8_init (wsX0_init) := ggX8_init_X0_init
set_option maxRecDepth 20000 in
theorem ggX8_init_X6_init : GoodIn wsX8_init wsX6_init := goodIn_r _ [143, 144, 2, 3, 9, 145, 146, 147, 196, 197, 198] (by decide +kernel) (by decide +kernel)
set_option maxRecDepth 20000 in
theorem gX8_init_X6_init : GoodIn wsX8_init (wsX6_init) := ggX8_init_X6_init
theorem dX8_init_0 : decode cX8_init 0 = .ok (.aload_n 0, 1) := by decide +kernel
theorem dX8_init_1 : decode cX8_init 1 = .ok (.invokespecial 3, 3) := by decide +kernel
theorem dX8_init_4 : decode cX8_init 4 = .ok (.aload_n 0, 1) := by decide +kernel
theorem dX8_init_5 : decode cX8_init 5 = .ok (.new 9, 3) := by decide +kernel
theorem dX8_init_8 : decode cX8_init 8 = .ok (.dup, 1) := by decide +kernel
theorem dX8_init_9 : decode cX8_init 9 = .ok (.iconst 4, 1) := by decide +kernel
theorem dX8_init_10 : decode cX8_init 10 = .ok (.iconst 4, 1) := by decide +kernel
theorem dX8_init_11 : decode cX8_init 11 = .ok (.invokespecial 11, 3) := by decide +kernel
theorem dX8_init_14 : decode cX8_init 14 = .ok (.putfield 14, 3) := by decide +kernel
theorem dX8_init_17 : decode cX8_init 17 = .ok (.aload_n 0, 1) := by decide +kernel
theorem dX8_init_18 : decode cX8_init 18 = .ok (.iconst 4, 1) := by decide +kernel
theorem dX8_init_19 : decode cX8_init 19 = .ok (.bipush 25, 2) := by decide +kernel
theorem dX8_init_21 : decode cX8_init 21 = .ok (.multianewarray 18 2, 4) := by decide +kernel
theorem dX8_init_25 : decode cX8_init 25 = .ok (.putfield 20, 3) := by decide +kernel
theorem dX8_init_28 : decode cX8_init 28 = .ok (.aload_n 0, 1) := by decide +kernel
theorem dX8_init_29 : decode cX8_init 29 = .ok (.new 23, 3) := by decide +kernel
theorem dX8_init_32 : decode cX8_init 32 = .ok (.dup, 1) := by decide +kernel
theorem dX8_init_33 : decode cX8_init 33 = .ok (.aload_n 0, 1) := by decide +kernel
theorem dX8_init_34 : decode cX8_init 34 = .ok (.getfield 14, 3) := by decide +kernel
theorem dX8_init_37 : decode cX8_init 37 = .ok (.invokespecial 25, 3) := by decide +kernel
theorem dX8_init_40 : decode cX8_init 40 = .ok (.putfield 28, 3) := by decide +kernel
theorem dX8_init_43 : decode cX8_init 43 = .ok (.aload_n 0, 1) := by decide +kernel
theorem dX8_init_44 : decode cX8_init 44 = .ok (.new 32, 3) := by decide +kernel
theorem dX8_init_47 : decode cX8_init 47 = .ok (.dup, 1) := by decide +kernel
theorem dX8_init_48 : decode cX8_init 48 = .ok (.aload_n 0, 1) := by decide +kernel
theorem dX8_init_49 : decode cX8_init 49 = .ok (.getfield 14, 3) := by decide +kernel
theorem dX8_init_52 : decode cX8_init 52 = .ok (.aload_n 0, 1) := by decide +kernel
theorem dX8_init_53 : decode cX8_init 53 = .ok (.getfield 28, 3) := by decide +kernel
theorem dX8_init_56 : decode cX8_init 56 = .ok (.invokespecial 34, 3) := by decide +kernel
theorem dX8_init_59 : decode cX8_init 59 = .ok (.putfield 37, 3) := by decide +kernel
theorem dX8_init_62 : decode cX8_init 62 = .ok (.aload_n 0, 1) := by decide +kernel
theorem dX8_init_63 : decode cX8_init 63 = .ok (.new 41, 3) := by decide +kernel
theorem dX8_init_66 : decode cX8_init 66 = .ok (.dup, 1) := by decide +kernel
theorem dX8_init_67 : decode cX8_init 67 = .ok (.aload_n 0, 1) := by decide +kernel
theorem dX8_init_68 : decode cX8_init 68 = .ok (.getfield 14, 3) := by decide +kernel
theorem dX8_init_71 : decode cX8_init 71 = .ok (.aload_n 0, 1) := by decide +kernel
theorem dX8_init_72 : decode cX8_init 72 = .ok (.getfield 37, 3) := by decide +kernel
theorem dX8_init_75 : decode cX8_init 75 = .ok (.invokespecial 43, 3) := by decide +kernel
theorem dX8_init_78 : decode cX8_init 78 = .ok (.putfield 46, 3) := by decide +kernel
theorem dX8_init_81 : decode cX8_init 81 = .ok (.aload_n 0, 1) := by decide +kernel
theorem dX8_init_82 : decode cX8_init 82 = .ok (.new 50, 3) := by decide +kernel
theorem dX8_init_85 : decode cX8_init 85 = .ok (.dup, 1) := by decide +kernel
theorem dX8_init_86 : decode cX8_init 86 = .ok (.aload_n 0, 1) := by decide +kernel
theorem dX8_init_87 : decode cX8_init 87 = .ok (.getfield 14, 3) := by decide +kernel
theorem dX8_init_90 : decode cX8_init 90 = .ok (.aload_n 0, 1) := by decide +kernel
theorem dX8_init_91 : decode cX8_init 91 = .ok (.getfield 37, 3) := by decide +kernel
theorem dX8_init_94 : decode cX8_init 94 = .ok (.invokespecial 52, 3) := by decide +kernel
theorem dX8_init_97 : decode cX8_init 97 = .ok (.putfield 53, 3) := by decide +kernel
theorem dX8_init_100 : decode cX8_init 100 = .ok (.aload_n 0, 1) := by decide +kernel
theorem dX8_init_101 : decode cX8_init 101 = .ok (.new 57, 3) := by decide +kernel
theorem dX8_init_104 : decode cX8_init 104 = .ok (.dup, 1) := by decide +kernel
theorem dX8_init_105 : decode cX8_init 105 = .ok (.aload_n 0, 1) := by decide +kernel
theorem dX8_init_106 : decode cX8_init 106 = .ok (.getfield 14, 3) := by decide +kernel
theorem dX8_init_109 : decode cX8_init 109 = .ok (.invokespecial 59, 3) := by decide +kernel
theorem dX8_init_112 : decode cX8_init 112 = .ok (.putfield 60, 3) := by decide +kernel
theorem dX8_init_115 : decode cX8_init 115 = .ok (.aload_n 0, 1) := by decide +kernel
theorem dX8_init_116 : decode cX8_init 116 = .ok (.new 64, 3) := by decide +kernel
theorem dX8_init_119 : decode cX8_init 119 = .ok (.dup, 1) := by decide +kernel
theorem dX8_init_120 : decode cX8_init 120 = .ok (.aload_n 0, 1) := by decide +kernel
theorem dX8_init_121 : decode cX8_init 121 = .ok (.getfield 14, 3) := by decide +kernel
theorem dX8_init_124 : decode cX8_init 124 = .ok (.invokespecial 66, 3) := by decide +kernel
theorem dX8_init_127 : decode cX8_init 127 = .ok (.putfield 67, 3) := by decide +kernel
theorem dX8_init_130 : decode cX8_init 130 = .ok (.return_, 1) := by decide +kernel
set_option maxRecDepth 20000 in
theorem ggX8_ground_X2_become : GoodIn wsX8_ground wsX2_become := goodIn_r _ [9, 10, 11, 12, 13, 14, 8, 15, 16, 17, 18, 19, 20, 21, 22, 23, 24, 25, 26, 27, 28, 69, 70, 71, 72, 73] (by decide +kernel) (by decide +kernel)
set_option maxRecDepth 20000 in
theorem gX8_ground_X2_become : GoodIn wsX8_ground (wsV RX8 71 RX2 yX2_become wsX2_become) := goodIn_app (goodIn_of _ (by decide +kernel)) ggX8_ground_X2_become
set_option maxRecDepth 20000 in
theorem ggX8_ground_J7_fill_53178 : GoodIn wsX8_ground wsJ7_fill_53178 := goodIn_r _ [32] (by decide +kernel) (by decide +kernel)
set_option maxRecDepth 20000 in
theorem gX8_ground_J7_fill_53178 : GoodIn wsX8_ground (va_wsS RX8 74 yJ7_fill_53178 wsJ7_fill_53178) := goodIn_app (goodIn_of _ (by decide +kernel)) ggX8_ground_J7_fill_53178
set_option maxRecDepth 20000 in
theorem ggX8_ground_X5_forget : GoodIn wsX8_ground wsX5_forget := goodIn_r _ [37, 38, 39, 40, 41, 42, 43, 44, 45, 46, 47, 48, 30, 31, 32, 49, 74, 75, 76, 77, 78, 79, 80] (by decide +kernel) (by decide +kernel)
set_option maxRecDepth 20000 in
theorem gX8_ground_X5_forget : GoodIn wsX8_ground (wsV RX8 80 RX5 yX5_forget wsX5_forget) := goodIn_app (goodIn_of _ (by decide +kernel)) ggX8_ground_X5_forget
set_option maxRecDepth 20000 in
theorem ggX8_ground_X4_forget : GoodIn wsX8_ground wsX4_forget := goodIn_r _ [54, 55, 56, 42, 43, 44, 45, 46, 47, 48, 30, 31, 32, 81, 82, 83, 84, 85, 86, 87, 88, 89, 90, 79, 80] (by decide +kernel) (by decide +kernel)
set_option maxRecDepth 20000 in
theorem gX8_ground_X4_forget : GoodIn wsX8_ground (wsV RX8 83 RX4 yX4_forget wsX4_forget) := goodIn_app (goodIn_of _ (by decide +kernel)) ggX8_ground_X4_forget
set_option maxRecDepth 20000 in
theorem ggX8_ground_X2_cells : GoodIn wsX8_ground wsX2_cells := goodIn_r _ [60, 10, 11, 69, 70, 71, 72, 73] (by decide +kernel) (by decide +kernel)
set_option maxRecDepth 20000 in
theorem gX8_ground_X2_cells : GoodIn wsX8_ground (wsV RX8 84 RX2 yX2_cells wsX2_cells) := goodIn_app (goodIn_of _ (by decide +kernel)) ggX8_ground_X2_cells
theorem dX8_ground_0 : decode cX8_ground 0 = .ok (.iload_n 1, 1) := by decide +kernel
theorem dX8_ground_1 : decode cX8_ground 1 = .ok (.iconst 1, 1) := by decide +kernel
theorem dX8_ground_2 : decode cX8_ground 2 = .ok (.if_icmp .lt 18, 3) := by decide +kernel
theorem dX8_ground_5 : decode cX8_ground 5 = .ok (.iload_n 1, 1) := by decide +kernel
theorem dX8_ground_6 : decode cX8_ground 6 = .ok (.iconst 5, 1) := by decide +kernel
theorem dX8_ground_7 : decode cX8_ground 7 = .ok (.if_icmp .gt 13, 3) := by decide +kernel
theorem dX8_ground_10 : decode cX8_ground 10 = .ok (.iload_n 2, 1) := by decide +kernel
theorem dX8_ground_11 : decode cX8_ground 11 = .ok (.iconst 1, 1) := by decide +kernel
theorem dX8_ground_12 : decode cX8_ground 12 = .ok (.if_icmp .lt 8, 3) := by decide +kernel
theorem dX8_ground_15 : decode cX8_ground 15 = .ok (.iload_n 2, 1) := by decide +kernel
theorem dX8_ground_16 : decode cX8_ground 16 = .ok (.iconst 5, 1) := by decide +kernel
theorem dX8_ground_17 : decode cX8_ground 17 = .ok (.if_icmp .le 6, 3) := by decide +kernel
theorem dX8_ground_20 : decode cX8_ground 20 = .ok (.bipush (-2), 2) := by decide +kernel
theorem dX8_ground_22 : decode cX8_ground 22 = .ok (.ireturn, 1) := by decide +kernel
theorem dX8_ground_23 : decode cX8_ground 23 = .ok (.aload_n 0, 1) := by decide +kernel
theorem dX8_ground_24 : decode cX8_ground 24 = .ok (.getfield 14, 3) := by decide +kernel
theorem dX8_ground_27 : decode cX8_ground 27 = .ok (.iload_n 1, 1) := by decide +kernel
theorem dX8_ground_28 : decode cX8_ground 28 = .ok (.iload_n 2, 1) := by decide +kernel
theorem dX8_ground_29 : decode cX8_ground 29 = .ok (.invokevirtual 71, 3) := by decide +kernel
theorem dX8_ground_32 : decode cX8_ground 32 = .ok (.iconst 0, 1) := by decide +kernel
theorem dX8_ground_33 : decode cX8_ground 33 = .ok (.istore_n 3, 1) := by decide +kernel
theorem dX8_ground_34 : decode cX8_ground 34 = .ok (.iload_n 3, 1) := by decide +kernel
theorem dX8_ground_35 : decode cX8_ground 35 = .ok (.iconst 4, 1) := by decide +kernel
theorem dX8_ground_36 : decode cX8_ground 36 = .ok (.if_icmp .ge 19, 3) := by decide +kernel
theorem dX8_ground_39 : decode cX8_ground 39 = .ok (.aload_n 0, 1) := by decide +kernel
theorem dX8_ground_40 : decode cX8_ground 40 = .ok (.getfield 20, 3) := by decide +kernel
theorem dX8_ground_43 : decode cX8_ground 43 = .ok (.iload_n 3, 1) := by decide +kernel
theorem dX8_ground_44 : decode cX8_ground 44 = .ok (.aaload, 1) := by decide +kernel
theorem dX8_ground_45 : decode cX8_ground 45 = .ok (.iconst 0, 1) := by decide +kernel
theorem dX8_ground_46 : decode cX8_ground 46 = .ok (.invokestatic 74, 3) := by decide +kernel
theorem dX8_ground_49 : decode cX8_ground 49 = .ok (.iinc 3 1, 3) := by decide +kernel
theorem dX8_ground_52 : decode cX8_ground 52 = .ok (.goto (-18), 3) := by decide +kernel
theorem dX8_ground_55 : decode cX8_ground 55 = .ok (.aload_n 0, 1) := by decide +kernel
theorem dX8_ground_56 : decode cX8_ground 56 = .ok (.getfield 37, 3) := by decide +kernel
theorem dX8_ground_59 : decode cX8_ground 59 = .ok (.invokevirtual 80, 3) := by decide +kernel
theorem dX8_ground_62 : decode cX8_ground 62 = .ok (.aload_n 0, 1) := by decide +kernel
theorem dX8_ground_63 : decode cX8_ground 63 = .ok (.getfield 53, 3) := by decide +kernel
theorem dX8_ground_66 : decode cX8_ground 66 = .ok (.invokevirtual 83, 3) := by decide +kernel
theorem dX8_ground_69 : decode cX8_ground 69 = .ok (.aload_n 0, 1) := by decide +kernel
theorem dX8_ground_70 : decode cX8_ground 70 = .ok (.getfield 14, 3) := by decide +kernel
theorem dX8_ground_73 : decode cX8_ground 73 = .ok (.invokevirtual 84, 3) := by decide +kernel
theorem dX8_ground_76 : decode cX8_ground 76 = .ok (.ireturn, 1) := by decide +kernel
set_option maxRecDepth 20000 in
theorem ggX8_set_X8_noSlot : GoodIn wsX8_set wsX8_noSlot := goodIn_r _ [5] (by decide +kernel) (by decide +kernel)
set_option maxRecDepth 20000 in
theorem gX8_set_X8_noSlot : GoodIn wsX8_set (va_wsS RX8 88 yX8_noSlot wsX8_noSlot) := goodIn_app (goodIn_of _ (by decide +kernel)) ggX8_set_X8_noSlot
set_option maxRecDepth 20000 in
theorem ggX8_set_X8_noCell : GoodIn wsX8_set wsX8_noCell := goodIn_r _ [9, 10, 11, 12, 13, 14, 15, 16, 17, 18, 19, 20, 21, 22, 23, 24, 25, 26, 27, 28, 29, 30] (by decide +kernel) (by decide +kernel)
set_option maxRecDepth 20000 in
theorem gX8_set_X8_noCell : GoodIn wsX8_set (wsV RX8 92 RX8 yX8_noCell wsX8_noCell) := goodIn_app (goodIn_of _ (by decide +kernel)) ggX8_set_X8_noCell
theorem dX8_set_0 : decode cX8_set 0 = .ok (.iload_n 1, 1) := by decide +kernel
theorem dX8_set_1 : decode cX8_set 1 = .ok (.invokestatic 88, 3) := by decide +kernel
theorem dX8_set_4 : decode cX8_set 4 = .ok (.ifCond .ne 11, 3) := by decide +kernel
theorem dX8_set_7 : decode cX8_set 7 = .ok (.aload_n 0, 1) := by decide +kernel
theorem dX8_set_8 : decode cX8_set 8 = .ok (.iload_n 2, 1) := by decide +kernel
theorem dX8_set_9 : decode cX8_set 9 = .ok (.invokevirtual 92, 3) := by decide +kernel
theorem dX8_set_12 : decode cX8_set 12 = .ok (.ifCond .eq 5, 3) := by decide +kernel
theorem dX8_set_15 : decode cX8_set 15 = .ok (.iconst (-1), 1) := by decide +kernel
theorem dX8_set_16 : decode cX8_set 16 = .ok (.ireturn, 1) := by decide +kernel
theorem dX8_set_17 : decode cX8_set 17 = .ok (.iload_n 3, 1) := by decide +kernel
theorem dX8_set_18 : decode cX8_set 18 = .ok (.ifCond .lt 8, 3) := by decide +kernel
theorem dX8_set_21 : decode cX8_set 21 = .ok (.iload_n 3, 1) := by decide +kernel
theorem dX8_set_22 : decode cX8_set 22 = .ok (.iconst 4, 1) := by decide +kernel
theorem dX8_set_23 : decode cX8_set 23 = .ok (.if_icmp .le 6, 3) := by decide +kernel
theorem dX8_set_26 : decode cX8_set 26 = .ok (.bipush (-2), 2) := by decide +kernel
theorem dX8_set_28 : decode cX8_set 28 = .ok (.ireturn, 1) := by decide +kernel
theorem dX8_set_29 : decode cX8_set 29 = .ok (.aload_n 0, 1) := by decide +kernel
theorem dX8_set_30 : decode cX8_set 30 = .ok (.getfield 20, 3) := by decide +kernel
theorem dX8_set_33 : decode cX8_set 33 = .ok (.iload_n 1, 1) := by decide +kernel
theorem dX8_set_34 : decode cX8_set 34 = .ok (.aaload, 1) := by decide +kernel
theorem dX8_set_35 : decode cX8_set 35 = .ok (.iload_n 2, 1) := by decide +kernel
theorem dX8_set_36 : decode cX8_set 36 = .ok (.iaload, 1) := by decide +kernel
theorem dX8_set_37 : decode cX8_set 37 = .ok (.istore 4, 2) := by decide +kernel
theorem dX8_set_39 : decode cX8_set 39 = .ok (.aload_n 0, 1) := by decide +kernel
theorem dX8_set_40 : decode cX8_set 40 = .ok (.getfield 20, 3) := by decide +kernel
theorem dX8_set_43 : decode cX8_set 43 = .ok (.iload_n 1, 1) := by decide +kernel
theorem dX8_set_44 : decode cX8_set 44 = .ok (.aaload, 1) := by decide +kernel
theorem dX8_set_45 : decode cX8_set 45 = .ok (.iload_n 2, 1) := by decide +kernel
theorem dX8_set_46 : decode cX8_set 46 = .ok (.iload_n 3, 1) := by decide +kernel
theorem dX8_set_47 : decode cX8_set 47 = .ok (.iastore, 1) := by decide +kernel
theorem dX8_set_48 : decode cX8_set 48 = .ok (.iload 4, 2) := by decide +kernel
theorem dX8_set_50 : decode cX8_set 50 = .ok (.ireturn, 1) := by decide +kernel
set_option maxRecDepth 20000 in
theorem ggX8_height_X8_noSlot : GoodIn wsX8_height wsX8_noSlot := goodIn_r _ [5] (by decide +kernel) (by decide +kernel)
set_option maxRecDepth 20000 in
theorem gX8_height_X8_noSlot : GoodIn wsX8_height (va_wsS RX8 88 yX8_noSlot wsX8_noSlot) := goodIn_app (goodIn_of _ (by decide +kernel)) ggX8_height_X8_noSlot
set_option maxRecDepth 20000 in
theorem ggX8_height_X8_noCell : GoodIn wsX8_height wsX8_noCell := goodIn_r _ [9, 10, 11, 12, 13, 14, 15, 16, 17, 18, 19, 20, 21, 22, 23, 24, 25, 26, 27, 28, 29, 30] (by decide +kernel) (by decide +kernel)
set_option maxRecDepth 20000 in
theorem gX8_height_X8_noCell : GoodIn wsX8_height (wsV RX8 92 RX8 yX8_noCell wsX8_noCell) := goodIn_app (goodIn_of _ (by decide +kernel)) ggX8_height_X8_noCell
theorem dX8_height_0 : decode cX8_height 0 = .ok (.iload_n 1, 1) := by decide +kernel
theorem dX8_height_1 : decode cX8_height 1 = .ok (.invokestatic 88, 3) := by decide +kernel
theorem dX8_height_4 : decode cX8_height 4 = .ok (.ifCond .ne 11, 3) := by decide +kernel
theorem dX8_height_7 : decode cX8_height 7 = .ok (.aload_n 0, 1) := by decide +kernel
theorem dX8_height_8 : decode cX8_height 8 = .ok (.iload_n 2, 1) := by decide +kernel
theorem dX8_height_9 : decode cX8_height 9 = .ok (.invokevirtual 92, 3) := by decide +kernel
theorem dX8_height_12 : decode cX8_height 12 = .ok (.ifCond .eq 5, 3) := by decide +kernel
theorem dX8_height_15 : decode cX8_height 15 = .ok (.iconst (-1), 1) := by decide +kernel
theorem dX8_height_16 : decode cX8_height 16 = .ok (.ireturn, 1) := by decide +kernel
theorem dX8_height_17 : decode cX8_height 17 = .ok (.aload_n 0, 1) := by decide +kernel
theorem dX8_height_18 : decode cX8_height 18 = .ok (.getfield 20, 3) := by decide +kernel
theorem dX8_height_21 : decode cX8_height 21 = .ok (.iload_n 1, 1) := by decide +kernel
theorem dX8_height_22 : decode cX8_height 22 = .ok (.aaload, 1) := by decide +kernel
theorem dX8_height_23 : decode cX8_height 23 = .ok (.iload_n 2, 1) := by decide +kernel
theorem dX8_height_24 : decode cX8_height 24 = .ok (.iaload, 1) := by decide +kernel
theorem dX8_height_25 : decode cX8_height 25 = .ok (.ireturn, 1) := by decide +kernel
set_option maxRecDepth 20000 in
theorem ggX8_copy_X8_noSlot : GoodIn wsX8_copy wsX8_noSlot := goodIn_r _ [6] (by decide +kernel) (by decide +kernel)
set_option maxRecDepth 20000 in
theorem gX8_copy_X8_noSlot : GoodIn wsX8_copy (va_wsS RX8 88 yX8_noSlot wsX8_noSlot) := goodIn_app (goodIn_of _ (by decide +kernel)) ggX8_copy_X8_noSlot
set_option maxRecDepth 20000 in
theorem ggX8_copy_X2_overwrite : GoodIn wsX8_copy wsX2_overwrite := goodIn_r _ [11, 12, 13, 14, 10, 15, 16, 17, 26, 27, 28, 29, 30] (by decide +kernel) (by decide +kernel)
set_option maxRecDepth 20000 in
theorem gX8_copy_X2_overwrite : GoodIn wsX8_copy (wsV RX8 95 RX2 yX2_overwrite wsX2_overwrite) := goodIn_app (goodIn_of _ (by decide +kernel)) ggX8_copy_X2_overwrite
theorem dX8_copy_0 : decode cX8_copy 0 = .ok (.iload_n 1, 1) := by decide +kernel
theorem dX8_copy_1 : decode cX8_copy 1 = .ok (.invokestatic 88, 3) := by decide +kernel
theorem dX8_copy_4 : decode cX8_copy 4 = .ok (.ifCond .ne 10, 3) := by decide +kernel
theorem dX8_copy_7 : decode cX8_copy 7 = .ok (.iload_n 2, 1) := by decide +kernel
theorem dX8_copy_8 : decode cX8_copy 8 = .ok (.invokestatic 88, 3) := by decide +kernel
theorem dX8_copy_11 : decode cX8_copy 11 = .ok (.ifCond .eq 5, 3) := by decide +kernel
theorem dX8_copy_14 : decode cX8_copy 14 = .ok (.iconst (-1), 1) := by decide +kernel
theorem dX8_copy_15 : decode cX8_copy 15 = .ok (.ireturn, 1) := by decide +kernel
theorem dX8_copy_16 : decode cX8_copy 16 = .ok (.aload_n 0, 1) := by decide +kernel
theorem dX8_copy_17 : decode cX8_copy 17 = .ok (.getfield 14, 3) := by decide +kernel
theorem dX8_copy_20 : decode cX8_copy 20 = .ok (.aload_n 0, 1) := by decide +kernel
theorem dX8_copy_21 : decode cX8_copy 21 = .ok (.getfield 20, 3) := by decide +kernel
theorem dX8_copy_24 : decode cX8_copy 24 = .ok (.iload_n 1, 1) := by decide +kernel
theorem dX8_copy_25 : decode cX8_copy 25 = .ok (.aaload, 1) := by decide +kernel
theorem dX8_copy_26 : decode cX8_copy 26 = .ok (.aload_n 0, 1) := by decide +kernel
theorem dX8_copy_27 : decode cX8_copy 27 = .ok (.getfield 20, 3) := by decide +kernel
theorem dX8_copy_30 : decode cX8_copy 30 = .ok (.iload_n 2, 1) := by decide +kernel
theorem dX8_copy_31 : decode cX8_copy 31 = .ok (.aaload, 1) := by decide +kernel
theorem dX8_copy_32 : decode cX8_copy 32 = .ok (.invokevirtual 95, 3) := by decide +kernel
theorem dX8_copy_35 : decode cX8_copy 35 = .ok (.ireturn, 1) := by decide +kernel
set_option maxRecDepth 20000 in
theorem ggX8_cubes_X8_noSlot : GoodIn wsX8_cubes wsX8_noSlot := goodIn_r _ [6] (by decide +kernel) (by decide +kernel)
set_option maxRecDepth 20000 in
theorem gX8_cubes_X8_noSlot : GoodIn wsX8_cubes (va_wsS RX8 88 yX8_noSlot wsX8_noSlot) := goodIn_app (goodIn_of _ (by decide +kernel)) ggX8_cubes_X8_noSlot
set_option maxRecDepth 20000 in
theorem ggX8_cubes_X2_total : GoodIn wsX8_cubes wsX2_total := goodIn_r _ [11, 12, 13, 14, 10, 15, 16, 17, 26, 27, 28, 29, 30] (by decide +kernel) (by decide +kernel)
set_option maxRecDepth 20000 in
theorem gX8_cubes_X2_total : GoodIn wsX8_cubes (wsV RX8 99 RX2 yX2_total wsX2_total) := goodIn_app (goodIn_of _ (by decide +kernel)) ggX8_cubes_X2_total
theorem dX8_cubes_0 : decode cX8_cubes 0 = .ok (.iload_n 1, 1) := by decide +kernel
theorem dX8_cubes_1 : decode cX8_cubes 1 = .ok (.invokestatic 88, 3) := by decide +kernel
theorem dX8_cubes_4 : decode cX8_cubes 4 = .ok (.ifCond .eq 5, 3) := by decide +kernel
theorem dX8_cubes_7 : decode cX8_cubes 7 = .ok (.iconst (-1), 1) := by decide +kernel
theorem dX8_cubes_8 : decode cX8_cubes 8 = .ok (.ireturn, 1) := by decide +kernel
theorem dX8_cubes_9 : decode cX8_cubes 9 = .ok (.aload_n 0, 1) := by decide +kernel
theorem dX8_cubes_10 : decode cX8_cubes 10 = .ok (.getfield 14, 3) := by decide +kernel
theorem dX8_cubes_13 : decode cX8_cubes 13 = .ok (.aload_n 0, 1) := by decide +kernel
theorem dX8_cubes_14 : decode cX8_cubes 14 = .ok (.getfield 20, 3) := by decide +kernel
theorem dX8_cubes_17 : decode cX8_cubes 17 = .ok (.iload_n 1, 1) := by decide +kernel
theorem dX8_cubes_18 : decode cX8_cubes 18 = .ok (.aaload, 1) := by decide +kernel
theorem dX8_cubes_19 : decode cX8_cubes 19 = .ok (.invokevirtual 99, 3) := by decide +kernel
theorem dX8_cubes_22 : decode cX8_cubes 22 = .ok (.ireturn, 1) := by decide +kernel
set_option maxRecDepth 20000 in
theorem ggX8_front_X8_noSlot : GoodIn wsX8_front wsX8_noSlot := goodIn_r _ [6] (by decide +kernel) (by decide +kernel)
set_option maxRecDepth 20000 in
theorem gX8_front_X8_noSlot : GoodIn wsX8_front (va_wsS RX8 88 yX8_noSlot wsX8_noSlot) := goodIn_app (goodIn_of _ (by decide +kernel)) ggX8_front_X8_noSlot
set_option maxRecDepth 20000 in
theorem ggX8_front_X8_noLine : GoodIn wsX8_front wsX8_noLine := goodIn_r _ [10, 11, 12, 13, 14, 15, 16, 17, 18, 37, 38, 39, 40, 41, 42, 43, 44, 45, 46, 47, 48, 49] (by decide +kernel) (by decide +kernel)
set_option maxRecDepth 20000 in
theorem gX8_front_X8_noLine : GoodIn wsX8_front (wsV RX8 103 RX8 yX8_noLine wsX8_noLine) := goodIn_app (goodIn_of _ (by decide +kernel)) ggX8_front_X8_noLine
set_option maxRecDepth 20000 in
theorem ggX8_front_X7_tallest : GoodIn wsX8_front wsX7_tallest := goodIn_r _ [23, 24, 25, 26, 27, 28, 29, 30, 31, 15, 32, 18, 17, 33, 34, 35, 36, 50, 51, 52, 53, 45, 46, 47, 48, 49] (by decide +kernel) (by decide +kernel)
set_option maxRecDepth 20000 in
theorem gX8_front_X7_tallest : GoodIn wsX8_front (wsV RX8 107 RX7 yX7_tallest wsX7_tallest) := goodIn_app (goodIn_of _ (by decide +kernel)) ggX8_front_X7_tallest
theorem dX8_front_0 : decode cX8_front 0 = .ok (.iload_n 1, 1) := by decide +kernel
theorem dX8_front_1 : decode cX8_front 1 = .ok (.invokestatic 88, 3) := by decide +kernel
theorem dX8_front_4 : decode cX8_front 4 = .ok (.ifCond .ne 12, 3) := by decide +kernel
theorem dX8_front_7 : decode cX8_front 7 = .ok (.aload_n 0, 1) := by decide +kernel
theorem dX8_front_8 : decode cX8_front 8 = .ok (.iconst 1, 1) := by decide +kernel
theorem dX8_front_9 : decode cX8_front 9 = .ok (.iload_n 2, 1) := by decide +kernel
theorem dX8_front_10 : decode cX8_front 10 = .ok (.invokevirtual 103, 3) := by decide +kernel
theorem dX8_front_13 : decode cX8_front 13 = .ok (.ifCond .eq 5, 3) := by decide +kernel
theorem dX8_front_16 : decode cX8_front 16 = .ok (.iconst (-1), 1) := by decide +kernel
theorem dX8_front_17 : decode cX8_front 17 = .ok (.ireturn, 1) := by decide +kernel
theorem dX8_front_18 : decode cX8_front 18 = .ok (.aload_n 0, 1) := by decide +kernel
theorem dX8_front_19 : decode cX8_front 19 = .ok (.getfield 28, 3) := by decide +kernel
theorem dX8_front_22 : decode cX8_front 22 = .ok (.aload_n 0, 1) := by decide +kernel
theorem dX8_front_23 : decode cX8_front 23 = .ok (.getfield 20, 3) := by decide +kernel
theorem dX8_front_26 : decode cX8_front 26 = .ok (.iload_n 1, 1) := by decide +kernel
theorem dX8_front_27 : decode cX8_front 27 = .ok (.aaload, 1) := by decide +kernel
theorem dX8_front_28 : decode cX8_front 28 = .ok (.iconst 1, 1) := by decide +kernel
theorem dX8_front_29 : decode cX8_front 29 = .ok (.iload_n 2, 1) := by decide +kernel
theorem dX8_front_30 : decode cX8_front 30 = .ok (.invokevirtual 107, 3) := by decide +kernel
theorem dX8_front_33 : decode cX8_front 33 = .ok (.ireturn, 1) := by decide +kernel
set_option maxRecDepth 20000 in
theorem ggX8_side_X8_noSlot : GoodIn wsX8_side wsX8_noSlot := goodIn_r _ [6] (by decide +kernel) (by decide +kernel)
set_option maxRecDepth 20000 in
theorem gX8_side_X8_noSlot : GoodIn wsX8_side (va_wsS RX8 88 yX8_noSlot wsX8_noSlot) := goodIn_app (goodIn_of _ (by decide +kernel)) ggX8_side_X8_noSlot
set_option maxRecDepth 20000 in
theorem ggX8_side_X8_noLine : GoodIn wsX8_side wsX8_noLine := goodIn_r _ [10, 11, 12, 13, 14, 15, 16, 17, 18, 37, 38, 39, 40, 41, 42, 43, 44, 45, 46, 47, 48, 49] (by decide +kernel) (by decide +kernel)
set_option maxRecDepth 20000 in
theorem gX8_side_X8_noLine : GoodIn wsX8_side (wsV RX8 103 RX8 yX8_noLine wsX8_noLine) := goodIn_app (goodIn_of _ (by decide +kernel)) ggX8_side_X8_noLine
set_option maxRecDepth 20000 in
theorem ggX8_side_X7_tallest : GoodIn wsX8_side wsX7_tallest := goodIn_r _ [23, 24, 25, 26, 27, 28, 29, 30, 31, 15, 32, 18, 17, 33, 34, 35, 36, 50, 51, 52, 53, 45, 46, 47, 48, 49] (by decide +kernel) (by decide +kernel)
set_option maxRecDepth 20000 in
theorem gX8_side_X7_tallest : GoodIn wsX8_side (wsV RX8 107 RX7 yX7_tallest wsX7_tallest) := goodIn_app (goodIn_of _ (by decide +kernel)) ggX8_side_X7_tallest
theorem dX8_side_0 : decode cX8_side 0 = .ok (.iload_n 1, 1) := by decide +kernel
theorem dX8_side_1 : decode cX8_side 1 = .ok (.invokestatic 88, 3) := by decide +kernel
theorem dX8_side_4 : decode cX8_side 4 = .ok (.ifCond .ne 12, 3) := by decide +kernel
theorem dX8_side_7 : decode cX8_side 7 = .ok (.aload_n 0, 1) := by decide +kernel
theorem dX8_side_8 : decode cX8_side 8 = .ok (.iconst 0, 1) := by decide +kernel
theorem dX8_side_9 : decode cX8_side 9 = .ok (.iload_n 2, 1) := by decide +kernel
theorem dX8_side_10 : decode cX8_side 10 = .ok (.invokevirtual 103, 3) := by decide +kernel
theorem dX8_side_13 : decode cX8_side 13 = .ok (.ifCond .eq 5, 3) := by decide +kernel
theorem dX8_side_16 : decode cX8_side 16 = .ok (.iconst (-1), 1) := by decide +kernel
theorem dX8_side_17 : decode cX8_side 17 = .ok (.ireturn, 1) := by decide +kernel
theorem dX8_side_18 : decode cX8_side 18 = .ok (.aload_n 0, 1) := by decide +kernel
theorem dX8_side_19 : decode cX8_side 19 = .ok (.getfield 28, 3) := by decide +kernel
theorem dX8_side_22 : decode cX8_side 22 = .ok (.aload_n 0, 1) := by decide +kernel
theorem dX8_side_23 : decode cX8_side 23 = .ok (.getfield 20, 3) := by decide +kernel
theorem dX8_side_26 : decode cX8_side 26 = .ok (.iload_n 1, 1) := by decide +kernel
theorem dX8_side_27 : decode cX8_side 27 = .ok (.aaload, 1) := by decide +kernel
theorem dX8_side_28 : decode cX8_side 28 = .ok (.iconst 0, 1) := by decide +kernel
theorem dX8_side_29 : decode cX8_side 29 = .ok (.iload_n 2, 1) := by decide +kernel
theorem dX8_side_30 : decode cX8_side 30 = .ok (.invokevirtual 107, 3) := by decide +kernel
theorem dX8_side_33 : decode cX8_side 33 = .ok (.ireturn, 1) := by decide +kernel
set_option maxRecDepth 20000 in
theorem ggX8_sum_X8_noSlot : GoodIn wsX8_sum wsX8_noSlot := goodIn_r _ [6] (by decide +kernel) (by decide +kernel)
set_option maxRecDepth 20000 in
theorem gX8_sum_X8_noSlot : GoodIn wsX8_sum (va_wsS RX8 88 yX8_noSlot wsX8_noSlot) := goodIn_app (goodIn_of _ (by decide +kernel)) ggX8_sum_X8_noSlot
set_option maxRecDepth 20000 in
theorem ggX8_sum_X8_noLine : GoodIn wsX8_sum wsX8_noLine := goodIn_r _ [10, 1, 11, 12, 13, 14, 15, 16, 17, 30, 31, 32, 33, 34, 35, 36, 37, 38, 39, 40, 41, 42] (by decide +kernel) (by decide +kernel)
set_option maxRecDepth 20000 in
theorem gX8_sum_X8_noLine : GoodIn wsX8_sum (wsV RX8 103 RX8 yX8_noLine wsX8_noLine) := goodIn_app (goodIn_of _ (by decide +kernel)) ggX8_sum_X8_noLine
set_option maxRecDepth 20000 in
theorem ggX8_sum_X2_lineTotal : GoodIn wsX8_sum wsX2_lineTotal := goodIn_r _ [21, 22, 23, 24, 14, 25, 17, 16, 26, 27, 28, 29, 38, 39, 40, 41, 42] (by decide +kernel) (by decide +kernel)
set_option maxRecDepth 20000 in
theorem gX8_sum_X2_lineTotal : GoodIn wsX8_sum (wsV RX8 111 RX2 yX2_lineTotal wsX2_lineTotal) := goodIn_app (goodIn_of _ (by decide +kernel)) ggX8_sum_X2_lineTotal
theorem dX8_sum_0 : decode cX8_sum 0 = .ok (.iload_n 1, 1) := by decide +kernel
theorem dX8_sum_1 : decode cX8_sum 1 = .ok (.invokestatic 88, 3) := by decide +kernel
theorem dX8_sum_4 : decode cX8_sum 4 = .ok (.ifCond .ne 12, 3) := by decide +kernel
theorem dX8_sum_7 : decode cX8_sum 7 = .ok (.aload_n 0, 1) := by decide +kernel
theorem dX8_sum_8 : decode cX8_sum 8 = .ok (.iload_n 2, 1) := by decide +kernel
theorem dX8_sum_9 : decode cX8_sum 9 = .ok (.iload_n 3, 1) := by decide +kernel
theorem dX8_sum_10 : decode cX8_sum 10 = .ok (.invokevirtual 103, 3) := by decide +kernel
theorem dX8_sum_13 : decode cX8_sum 13 = .ok (.ifCond .eq 5, 3) := by decide +kernel
theorem dX8_sum_16 : decode cX8_sum 16 = .ok (.iconst (-1), 1) := by decide +kernel
theorem dX8_sum_17 : decode cX8_sum 17 = .ok (.ireturn, 1) := by decide +kernel
theorem dX8_sum_18 : decode cX8_sum 18 = .ok (.aload_n 0, 1) := by decide +kernel
theorem dX8_sum_19 : decode cX8_sum 19 = .ok (.getfield 14, 3) := by decide +kernel
theorem dX8_sum_22 : decode cX8_sum 22 = .ok (.aload_n 0, 1) := by decide +kernel
theorem dX8_sum_23 : decode cX8_sum 23 = .ok (.getfield 20, 3) := by decide +kernel
theorem dX8_sum_26 : decode cX8_sum 26 = .ok (.iload_n 1, 1) := by decide +kernel
theorem dX8_sum_27 : decode cX8_sum 27 = .ok (.aaload, 1) := by decide +kernel
theorem dX8_sum_28 : decode cX8_sum 28 = .ok (.iload_n 2, 1) := by decide +kernel
theorem dX8_sum_29 : decode cX8_sum 29 = .ok (.iload_n 3, 1) := by decide +kernel
theorem dX8_sum_30 : decode cX8_sum 30 = .ok (.invokevirtual 111, 3) := by decide +kernel
theorem dX8_sum_33 : decode cX8_sum 33 = .ok (.ireturn, 1) := by decide +kernel
set_option maxRecDepth 20000 in
theorem ggX8_seen_X8_noSlot : GoodIn wsX8_seen wsX8_noSlot := goodIn_r _ [6] (by decide +kernel) (by decide +kernel)
set_option maxRecDepth 20000 in
theorem gX8_seen_X8_noSlot : GoodIn wsX8_seen (va_wsS RX8 88 yX8_noSlot wsX8_noSlot) := goodIn_app (goodIn_of _ (by decide +kernel)) ggX8_seen_X8_noSlot
set_option maxRecDepth 20000 in
theorem ggX8_seen_X7_alongColumn : GoodIn wsX8_seen wsX7_alongColumn := goodIn_r _ [10] (by decide +kernel) (by decide +kernel)
set_option maxRecDepth 20000 in
theorem gX8_seen_X7_alongColumn : GoodIn wsX8_seen (va_wsS RX8 114 yX7_alongColumn wsX7_alongColumn) := goodIn_app (goodIn_of _ (by decide +kernel)) ggX8_seen_X7_alongColumn
set_option maxRecDepth 20000 in
theorem ggX8_seen_X8_noLine : GoodIn wsX8_seen wsX8_noLine := goodIn_r _ [14, 15, 16, 17, 18, 19, 20, 21, 22, 37, 38, 39, 40, 41, 42, 43, 44, 45, 46, 47, 48, 49] (by decide +kernel) (by decide +kernel)
set_option maxRecDepth 20000 in
theorem gX8_seen_X8_noLine : GoodIn wsX8_seen (wsV RX8 103 RX8 yX8_noLine wsX8_noLine) := goodIn_app (goodIn_of _ (by decide +kernel)) ggX8_seen_X8_noLine
set_option maxRecDepth 20000 in
theorem ggX8_seen_X7_towersSeen : GoodIn wsX8_seen wsX7_towersSeen := goodIn_r _ [26, 27, 28, 8, 9, 10, 29, 30, 31, 19, 32, 22, 21, 33, 34, 35, 36, 50, 51, 52, 53, 45, 46, 47, 48, 49] (by decide +kernel) (by decide +kernel)
set_option maxRecDepth 20000 in
theorem gX8_seen_X7_towersSeen : GoodIn wsX8_seen (wsV RX8 117 RX7 yX7_towersSeen wsX7_towersSeen) := goodIn_app (goodIn_of _ (by decide +kernel)) ggX8_seen_X7_towersSeen
theorem dX8_seen_0 : decode cX8_seen 0 = .ok (.iload_n 1, 1) := by decide +kernel
theorem dX8_seen_1 : decode cX8_seen 1 = .ok (.invokestatic 88, 3) := by decide +kernel
theorem dX8_seen_4 : decode cX8_seen 4 = .ok (.ifCond .eq 5, 3) := by decide +kernel
theorem dX8_seen_7 : decode cX8_seen 7 = .ok (.iconst (-1), 1) := by decide +kernel
theorem dX8_seen_8 : decode cX8_seen 8 = .ok (.ireturn, 1) := by decide +kernel
theorem dX8_seen_9 : decode cX8_seen 9 = .ok (.iload_n 2, 1) := by decide +kernel
theorem dX8_seen_10 : decode cX8_seen 10 = .ok (.ifCond .lt 8, 3) := by decide +kernel
theorem dX8_seen_13 : decode cX8_seen 13 = .ok (.iload_n 2, 1) := by decide +kernel
theorem dX8_seen_14 : decode cX8_seen 14 = .ok (.iconst 4, 1) := by decide +kernel
theorem dX8_seen_15 : decode cX8_seen 15 = .ok (.if_icmp .lt 6, 3) := by decide +kernel
theorem dX8_seen_18 : decode cX8_seen 18 = .ok (.bipush (-2), 2) := by decide +kernel
theorem dX8_seen_20 : decode cX8_seen 20 = .ok (.ireturn, 1) := by decide +kernel
theorem dX8_seen_21 : decode cX8_seen 21 = .ok (.aload_n 0, 1) := by decide +kernel
theorem dX8_seen_22 : decode cX8_seen 22 = .ok (.iload_n 2, 1) := by decide +kernel
theorem dX8_seen_23 : decode cX8_seen 23 = .ok (.invokestatic 114, 3) := by decide +kernel
theorem dX8_seen_26 : decode cX8_seen 26 = .ok (.iload_n 3, 1) := by decide +kernel
theorem dX8_seen_27 : decode cX8_seen 27 = .ok (.invokevirtual 103, 3) := by decide +kernel
theorem dX8_seen_30 : decode cX8_seen 30 = .ok (.ifCond .eq 5, 3) := by decide +kernel
theorem dX8_seen_33 : decode cX8_seen 33 = .ok (.iconst (-1), 1) := by decide +kernel
theorem dX8_seen_34 : decode cX8_seen 34 = .ok (.ireturn, 1) := by decide +kernel
theorem dX8_seen_35 : decode cX8_seen 35 = .ok (.aload_n 0, 1) := by decide +kernel
theorem dX8_seen_36 : decode cX8_seen 36 = .ok (.getfield 28, 3) := by decide +kernel
theorem dX8_seen_39 : decode cX8_seen 39 = .ok (.aload_n 0, 1) := by decide +kernel
theorem dX8_seen_40 : decode cX8_seen 40 = .ok (.getfield 20, 3) := by decide +kernel
theorem dX8_seen_43 : decode cX8_seen 43 = .ok (.iload_n 1, 1) := by decide +kernel
theorem dX8_seen_44 : decode cX8_seen 44 = .ok (.aaload, 1) := by decide +kernel
theorem dX8_seen_45 : decode cX8_seen 45 = .ok (.iload_n 2, 1) := by decide +kernel
theorem dX8_seen_46 : decode cX8_seen 46 = .ok (.iload_n 3, 1) := by decide +kernel
theorem dX8_seen_47 : decode cX8_seen 47 = .ok (.invokevirtual 117, 3) := by decide +kernel
theorem dX8_seen_50 : decode cX8_seen 50 = .ok (.ireturn, 1) := by decide +kernel
set_option maxRecDepth 20000 in
theorem ggX8_skin_X8_noSlot : GoodIn wsX8_skin wsX8_noSlot := goodIn_r _ [6] (by decide +kernel) (by decide +kernel)
set_option maxRecDepth 20000 in
theorem gX8_skin_X8_noSlot : GoodIn wsX8_skin (va_wsS RX8 88 yX8_noSlot wsX8_noSlot) := goodIn_app (goodIn_of _ (by decide +kernel)) ggX8_skin_X8_noSlot
set_option maxRecDepth 20000 in
theorem ggX8_skin_X7_openFaces : GoodIn wsX8_skin wsX7_openFaces := goodIn_r _ [11, 12, 13, 14, 15, 16, 17, 18, 19, 20, 21, 22, 23, 24, 25, 26, 10, 27, 28, 29, 30, 31, 32, 41, 42, 43, 44, 45, 46, 47, 48, 49] (by decide +kernel) (by decide +kernel)
set_option maxRecDepth 20000 in
theorem gX8_skin_X7_openFaces : GoodIn wsX8_skin (wsV RX8 121 RX7 yX7_openFaces wsX7_openFaces) := goodIn_app (goodIn_of _ (by decide +kernel)) ggX8_skin_X7_openFaces
theorem dX8_skin_0 : decode cX8_skin 0 = .ok (.iload_n 1, 1) := by decide +kernel
theorem dX8_skin_1 : decode cX8_skin 1 = .ok (.invokestatic 88, 3) := by decide +kernel
theorem dX8_skin_4 : decode cX8_skin 4 = .ok (.ifCond .eq 5, 3) := by decide +kernel
theorem dX8_skin_7 : decode cX8_skin 7 = .ok (.iconst (-1), 1) := by decide +kernel
theorem dX8_skin_8 : decode cX8_skin 8 = .ok (.ireturn, 1) := by decide +kernel
theorem dX8_skin_9 : decode cX8_skin 9 = .ok (.aload_n 0, 1) := by decide +kernel
theorem dX8_skin_10 : decode cX8_skin 10 = .ok (.getfield 28, 3) := by decide +kernel
theorem dX8_skin_13 : decode cX8_skin 13 = .ok (.aload_n 0, 1) := by decide +kernel
theorem dX8_skin_14 : decode cX8_skin 14 = .ok (.getfield 20, 3) := by decide +kernel
theorem dX8_skin_17 : decode cX8_skin 17 = .ok (.iload_n 1, 1) := by decide +kernel
theorem dX8_skin_18 : decode cX8_skin 18 = .ok (.aaload, 1) := by decide +kernel
theorem dX8_skin_19 : decode cX8_skin 19 = .ok (.invokevirtual 121, 3) := by decide +kernel
theorem dX8_skin_22 : decode cX8_skin 22 = .ok (.ireturn, 1) := by decide +kernel
set_option maxRecDepth 20000 in
theorem ggX8_layer_X8_noSlot : GoodIn wsX8_layer wsX8_noSlot := goodIn_r _ [6] (by decide +kernel) (by decide +kernel)
set_option maxRecDepth 20000 in
theorem gX8_layer_X8_noSlot : GoodIn wsX8_layer (va_wsS RX8 88 yX8_noSlot wsX8_noSlot) := goodIn_app (goodIn_of _ (by decide +kernel)) ggX8_layer_X8_noSlot
set_option maxRecDepth 20000 in
theorem ggX8_layer_X7_layerParts : GoodIn wsX8_layer wsX7_layerParts := goodIn_r _ [11, 12, 13, 14, 15, 16, 17, 18, 19, 20, 21, 22, 23, 24, 25, 26, 27, 10, 28, 29, 30, 31, 32, 33, 34, 47, 48, 49, 50, 51, 52, 53, 54, 55] (by decide +kernel) (by decide +kernel)
set_option maxRecDepth 20000 in
theorem gX8_layer_X7_layerParts : GoodIn wsX8_layer (wsV RX8 124 RX7 yX7_layerParts wsX7_layerParts) := goodIn_app (goodIn_of _ (by decide +kernel)) ggX8_layer_X7_layerParts
set_option maxRecDepth 20000 in
theorem ggX8_layer_X7_layerCells : GoodIn wsX8_layer wsX7_layerCells := goodIn_r _ [38, 13, 18, 19, 20, 21, 22, 23, 24, 47, 48, 49, 50, 51, 52, 53, 54, 55] (by decide +kernel) (by decide +kernel)
set_option maxRecDepth 20000 in
theorem gX8_layer_X7_layerCells : GoodIn wsX8_layer (wsV RX8 128 RX7 yX7_layerCells wsX7_layerCells) := goodIn_app (goodIn_of _ (by decide +kernel)) ggX8_layer_X7_layerCells
theorem dX8_layer_0 : decode cX8_layer 0 = .ok (.iload_n 1, 1) := by decide +kernel
theorem dX8_layer_1 : decode cX8_layer 1 = .ok (.invokestatic 88, 3) := by decide +kernel
theorem dX8_layer_4 : decode cX8_layer 4 = .ok (.ifCond .eq 5, 3) := by decide +kernel
theorem dX8_layer_7 : decode cX8_layer 7 = .ok (.iconst (-1), 1) := by decide +kernel
theorem dX8_layer_8 : decode cX8_layer 8 = .ok (.ireturn, 1) := by decide +kernel
theorem dX8_layer_9 : decode cX8_layer 9 = .ok (.iload_n 2, 1) := by decide +kernel
theorem dX8_layer_10 : decode cX8_layer 10 = .ok (.iconst 1, 1) := by decide +kernel
theorem dX8_layer_11 : decode cX8_layer 11 = .ok (.if_icmp .lt 8, 3) := by decide +kernel
theorem dX8_layer_14 : decode cX8_layer 14 = .ok (.iload_n 2, 1) := by decide +kernel
theorem dX8_layer_15 : decode cX8_layer 15 = .ok (.iconst 4, 1) := by decide +kernel
theorem dX8_layer_16 : decode cX8_layer 16 = .ok (.if_icmp .le 6, 3) := by decide +kernel
theorem dX8_layer_19 : decode cX8_layer 19 = .ok (.bipush (-2), 2) := by decide +kernel
theorem dX8_layer_21 : decode cX8_layer 21 = .ok (.ireturn, 1) := by decide +kernel
theorem dX8_layer_22 : decode cX8_layer 22 = .ok (.iload_n 3, 1) := by decide +kernel
theorem dX8_layer_23 : decode cX8_layer 23 = .ok (.ifCond .eq 20, 3) := by decide +kernel
theorem dX8_layer_26 : decode cX8_layer 26 = .ok (.aload_n 0, 1) := by decide +kernel
theorem dX8_layer_27 : decode cX8_layer 27 = .ok (.getfield 28, 3) := by decide +kernel
theorem dX8_layer_30 : decode cX8_layer 30 = .ok (.aload_n 0, 1) := by decide +kernel
theorem dX8_layer_31 : decode cX8_layer 31 = .ok (.getfield 20, 3) := by decide +kernel
theorem dX8_layer_34 : decode cX8_layer 34 = .ok (.iload_n 1, 1) := by decide +kernel
theorem dX8_layer_35 : decode cX8_layer 35 = .ok (.aaload, 1) := by decide +kernel
theorem dX8_layer_36 : decode cX8_layer 36 = .ok (.iload_n 2, 1) := by decide +kernel
theorem dX8_layer_37 : decode cX8_layer 37 = .ok (.invokevirtual 124, 3) := by decide +kernel
theorem dX8_layer_40 : decode cX8_layer 40 = .ok (.goto 17, 3) := by decide +kernel
theorem dX8_layer_43 : decode cX8_layer 43 = .ok (.aload_n 0, 1) := by decide +kernel
theorem dX8_layer_44 : decode cX8_layer 44 = .ok (.getfield 28, 3) := by decide +kernel
theorem dX8_layer_47 : decode cX8_layer 47 = .ok (.aload_n 0, 1) := by decide +kernel
theorem dX8_layer_48 : decode cX8_layer 48 = .ok (.getfield 20, 3) := by decide +kernel
theorem dX8_layer_51 : decode cX8_layer 51 = .ok (.iload_n 1, 1) := by decide +kernel
theorem dX8_layer_52 : decode cX8_layer 52 = .ok (.aaload, 1) := by decide +kernel
theorem dX8_layer_53 : decode cX8_layer 53 = .ok (.iload_n 2, 1) := by decide +kernel
theorem dX8_layer_54 : decode cX8_layer 54 = .ok (.invokevirtual 128, 3) := by decide +kernel
theorem dX8_layer_57 : decode cX8_layer 57 = .ok (.ireturn, 1) := by decide +kernel
set_option maxRecDepth 20000 in
theorem ggX8_water_X8_noSlot : GoodIn wsX8_water wsX8_noSlot := goodIn_r _ [6] (by decide +kernel) (by decide +kernel)
set_option maxRecDepth 20000 in
theorem gX8_water_X8_noSlot : GoodIn wsX8_water (va_wsS RX8 88 yX8_noSlot wsX8_noSlot) := goodIn_app (goodIn_of _ (by decide +kernel)) ggX8_water_X8_noSlot
set_option maxRecDepth 20000 in
theorem ggX8_water_X7_waterKept : GoodIn wsX8_water wsX7_waterKept := goodIn_r _ [11, 12, 13, 14, 15, 16, 10, 17, 18, 19, 20, 21, 22, 23, 24, 25, 26, 27, 28, 29, 30, 31, 32, 33, 34, 35, 36, 37, 38, 39, 40, 41, 42, 43, 44, 45, 46, 47, 48, 49, 50, 51, 52, 53, 62, 63, 64, 65, 66, 67, 68, 69, 70] (by decide +kernel) (by decide +kernel)
set_option maxRecDepth 20000 in
theorem gX8_water_X7_waterKept : GoodIn wsX8_water (wsV RX8 131 RX7 yX7_waterKept wsX7_waterKept) := goodIn_app (goodIn_of _ (by decide +kernel)) ggX8_water_X7_waterKept
theorem dX8_water_0 : decode cX8_water 0 = .ok (.iload_n 1, 1) := by decide +kernel
theorem dX8_water_1 : decode cX8_water 1 = .ok (.invokestatic 88, 3) := by decide +kernel
theorem dX8_water_4 : decode cX8_water 4 = .ok (.ifCond .eq 5, 3) := by decide +kernel
theorem dX8_water_7 : decode cX8_water 7 = .ok (.iconst (-1), 1) := by decide +kernel
theorem dX8_water_8 : decode cX8_water 8 = .ok (.ireturn, 1) := by decide +kernel
theorem dX8_water_9 : decode cX8_water 9 = .ok (.aload_n 0, 1) := by decide +kernel
theorem dX8_water_10 : decode cX8_water 10 = .ok (.getfield 28, 3) := by decide +kernel
theorem dX8_water_13 : decode cX8_water 13 = .ok (.aload_n 0, 1) := by decide +kernel
theorem dX8_water_14 : decode cX8_water 14 = .ok (.getfield 20, 3) := by decide +kernel
theorem dX8_water_17 : decode cX8_water 17 = .ok (.iload_n 1, 1) := by decide +kernel
theorem dX8_water_18 : decode cX8_water 18 = .ok (.aaload, 1) := by decide +kernel
theorem dX8_water_19 : decode cX8_water 19 = .ok (.invokevirtual 131, 3) := by decide +kernel
theorem dX8_water_22 : decode cX8_water 22 = .ok (.ireturn, 1) := by decide +kernel
set_option maxRecDepth 20000 in
theorem ggX8_level_X8_noSlot : GoodIn wsX8_level wsX8_noSlot := goodIn_r _ [6] (by decide +kernel) (by decide +kernel)
set_option maxRecDepth 20000 in
theorem gX8_level_X8_noSlot : GoodIn wsX8_level (va_wsS RX8 88 yX8_noSlot wsX8_noSlot) := goodIn_app (goodIn_of _ (by decide +kernel)) ggX8_level_X8_noSlot
set_option maxRecDepth 20000 in
theorem ggX8_level_X8_noCell : GoodIn wsX8_level wsX8_noCell := goodIn_r _ [10, 11, 12, 13, 14, 15, 16, 17, 18, 55, 56, 57, 58, 59, 60, 61, 62, 63, 64, 65, 66, 67] (by decide +kernel) (by decide +kernel)
set_option maxRecDepth 20000 in
theorem gX8_level_X8_noCell : GoodIn wsX8_level (wsV RX8 92 RX8 yX8_noCell wsX8_noCell) := goodIn_app (goodIn_of _ (by decide +kernel)) ggX8_level_X8_noCell
set_option maxRecDepth 20000 in
theorem ggX8_level_X7_waterLevel : GoodIn wsX8_level wsX7_waterLevel := goodIn_r _ [23, 24, 25, 26, 27, 22, 28, 29, 30, 31, 32, 33, 34, 35, 36, 37, 38, 13, 14, 15, 16, 17, 18, 39, 40, 41, 42, 43, 44, 45, 46, 47, 48, 49, 50, 51, 52, 53, 54, 68, 69, 70, 71, 63, 64, 65, 66, 67] (by decide +kernel) (by decide +kernel)
set_option maxRecDepth 20000 in
theorem gX8_level_X7_waterLevel : GoodIn wsX8_level (wsV RX8 134 RX7 yX7_waterLevel wsX7_waterLevel) := goodIn_app (goodIn_of _ (by decide +kernel)) ggX8_level_X7_waterLevel
theorem dX8_level_0 : decode cX8_level 0 = .ok (.iload_n 1, 1) := by decide +kernel
theorem dX8_level_1 : decode cX8_level 1 = .ok (.invokestatic 88, 3) := by decide +kernel
theorem dX8_level_4 : decode cX8_level 4 = .ok (.ifCond .ne 11, 3) := by decide +kernel
theorem dX8_level_7 : decode cX8_level 7 = .ok (.aload_n 0, 1) := by decide +kernel
theorem dX8_level_8 : decode cX8_level 8 = .ok (.iload_n 2, 1) := by decide +kernel
theorem dX8_level_9 : decode cX8_level 9 = .ok (.invokevirtual 92, 3) := by decide +kernel
theorem dX8_level_12 : decode cX8_level 12 = .ok (.ifCond .eq 5, 3) := by decide +kernel
theorem dX8_level_15 : decode cX8_level 15 = .ok (.iconst (-1), 1) := by decide +kernel
theorem dX8_level_16 : decode cX8_level 16 = .ok (.ireturn, 1) := by decide +kernel
theorem dX8_level_17 : decode cX8_level 17 = .ok (.aload_n 0, 1) := by decide +kernel
theorem dX8_level_18 : decode cX8_level 18 = .ok (.getfield 28, 3) := by decide +kernel
theorem dX8_level_21 : decode cX8_level 21 = .ok (.aload_n 0, 1) := by decide +kernel
theorem dX8_level_22 : decode cX8_level 22 = .ok (.getfield 20, 3) := by decide +kernel
theorem dX8_level_25 : decode cX8_level 25 = .ok (.iload_n 1, 1) := by decide +kernel
theorem dX8_level_26 : decode cX8_level 26 = .ok (.aaload, 1) := by decide +kernel
theorem dX8_level_27 : decode cX8_level 27 = .ok (.iload_n 2, 1) := by decide +kernel
theorem dX8_level_28 : decode cX8_level 28 = .ok (.invokevirtual 134, 3) := by decide +kernel
theorem dX8_level_31 : decode cX8_level 31 = .ok (.ireturn, 1) := by decide +kernel
set_option maxRecDepth 20000 in
theorem ggX8_tell_X8_noLine : GoodIn wsX8_tell wsX8_noLine := goodIn_r _ [6, 7, 8, 9, 10, 11, 12, 13, 14, 29, 30, 31, 32, 33, 34, 35, 36, 37, 38, 39, 40, 41] (by decide +kernel) (by decide +kernel)
set_option maxRecDepth 20000 in
theorem gX8_tell_X8_noLine : GoodIn wsX8_tell (wsV RX8 103 RX8 yX8_noLine wsX8_noLine) := goodIn_app (goodIn_of _ (by decide +kernel)) ggX8_tell_X8_noLine
set_option maxRecDepth 20000 in
theorem ggX8_tell_X5_putLine : GoodIn wsX8_tell wsX5_putLine := goodIn_r _ [19, 20, 21, 22, 23, 24, 25, 26, 27, 28, 42, 43, 44, 45, 46, 47, 48] (by decide +kernel) (by decide +kernel)
set_option maxRecDepth 20000 in
theorem gX8_tell_X5_putLine : GoodIn wsX8_tell (wsV RX8 137 RX5 yX5_putLine wsX5_putLine) := goodIn_app (goodIn_of _ (by decide +kernel)) ggX8_tell_X5_putLine
theorem dX8_tell_0 : decode cX8_tell 0 = .ok (.aload_n 0, 1) := by decide +kernel
theorem dX8_tell_1 : decode cX8_tell 1 = .ok (.iload_n 1, 1) := by decide +kernel
theorem dX8_tell_2 : decode cX8_tell 2 = .ok (.iload_n 2, 1) := by decide +kernel
theorem dX8_tell_3 : decode cX8_tell 3 = .ok (.invokevirtual 103, 3) := by decide +kernel
theorem dX8_tell_6 : decode cX8_tell 6 = .ok (.ifCond .eq 5, 3) := by decide +kernel
theorem dX8_tell_9 : decode cX8_tell 9 = .ok (.iconst (-1), 1) := by decide +kernel
theorem dX8_tell_10 : decode cX8_tell 10 = .ok (.ireturn, 1) := by decide +kernel
theorem dX8_tell_11 : decode cX8_tell 11 = .ok (.iload_n 3, 1) := by decide +kernel
theorem dX8_tell_12 : decode cX8_tell 12 = .ok (.bipush (-9), 2) := by decide +kernel
theorem dX8_tell_14 : decode cX8_tell 14 = .ok (.if_icmp .eq 15, 3) := by decide +kernel
theorem dX8_tell_17 : decode cX8_tell 17 = .ok (.iload_n 3, 1) := by decide +kernel
theorem dX8_tell_18 : decode cX8_tell 18 = .ok (.ifCond .lt 8, 3) := by decide +kernel
theorem dX8_tell_21 : decode cX8_tell 21 = .ok (.iload_n 3, 1) := by decide +kernel
theorem dX8_tell_22 : decode cX8_tell 22 = .ok (.iconst 4, 1) := by decide +kernel
theorem dX8_tell_23 : decode cX8_tell 23 = .ok (.if_icmp .le 6, 3) := by decide +kernel
theorem dX8_tell_26 : decode cX8_tell 26 = .ok (.bipush (-2), 2) := by decide +kernel
theorem dX8_tell_28 : decode cX8_tell 28 = .ok (.ireturn, 1) := by decide +kernel
theorem dX8_tell_29 : decode cX8_tell 29 = .ok (.aload_n 0, 1) := by decide +kernel
theorem dX8_tell_30 : decode cX8_tell 30 = .ok (.getfield 37, 3) := by decide +kernel
theorem dX8_tell_33 : decode cX8_tell 33 = .ok (.iload_n 1, 1) := by decide +kernel
theorem dX8_tell_34 : decode cX8_tell 34 = .ok (.iload_n 2, 1) := by decide +kernel
theorem dX8_tell_35 : decode cX8_tell 35 = .ok (.iload_n 3, 1) := by decide +kernel
theorem dX8_tell_36 : decode cX8_tell 36 = .ok (.invokevirtual 137, 3) := by decide +kernel
theorem dX8_tell_39 : decode cX8_tell 39 = .ok (.ireturn, 1) := by decide +kernel
set_option maxRecDepth 20000 in
theorem ggX8_tellTop_X8_noCell : GoodIn wsX8_tellTop wsX8_noCell := goodIn_r _ [6, 7, 8, 9, 10, 11, 12, 13, 14, 22, 23, 24, 25, 26, 27, 28, 29, 30, 31, 32, 33, 34] (by decide +kernel) (by decide +kernel)
set_option maxRecDepth 20000 in
theorem gX8_tellTop_X8_noCell : GoodIn wsX8_tellTop (wsV RX8 92 RX8 yX8_noCell wsX8_noCell) := goodIn_app (goodIn_of _ (by decide +kernel)) ggX8_tellTop_X8_noCell
set_option maxRecDepth 20000 in
theorem ggX8_tellTop_X5_putTop : GoodIn wsX8_tellTop wsX5_putTop := goodIn_r _ [19, 20, 21, 35, 36, 37, 38, 39] (by decide +kernel) (by decide +kernel)
set_option maxRecDepth 20000 in
theorem gX8_tellTop_X5_putTop : GoodIn wsX8_tellTop (wsV RX8 141 RX5 yX5_putTop wsX5_putTop) := goodIn_app (goodIn_of _ (by decide +kernel)) ggX8_tellTop_X5_putTop
theorem dX8_tellTop_0 : decode cX8_tellTop 0 = .ok (.aload_n 0, 1) := by decide +kernel
theorem dX8_tellTop_1 : decode cX8_tellTop 1 = .ok (.iload_n 1, 1) := by decide +kernel
theorem dX8_tellTop_2 : decode cX8_tellTop 2 = .ok (.invokevirtual 92, 3) := by decide +kernel
theorem dX8_tellTop_5 : decode cX8_tellTop 5 = .ok (.ifCond .eq 5, 3) := by decide +kernel
theorem dX8_tellTop_8 : decode cX8_tellTop 8 = .ok (.iconst (-1), 1) := by decide +kernel
theorem dX8_tellTop_9 : decode cX8_tellTop 9 = .ok (.ireturn, 1) := by decide +kernel
theorem dX8_tellTop_10 : decode cX8_tellTop 10 = .ok (.iload_n 2, 1) := by decide +kernel
theorem dX8_tellTop_11 : decode cX8_tellTop 11 = .ok (.bipush (-9), 2) := by decide +kernel
theorem dX8_tellTop_13 : decode cX8_tellTop 13 = .ok (.if_icmp .eq 15, 3) := by decide +kernel
theorem dX8_tellTop_16 : decode cX8_tellTop 16 = .ok (.iload_n 2, 1) := by decide +kernel
theorem dX8_tellTop_17 : decode cX8_tellTop 17 = .ok (.ifCond .eq 11, 3) := by decide +kernel
theorem dX8_tellTop_20 : decode cX8_tellTop 20 = .ok (.iload_n 2, 1) := by decide +kernel
theorem dX8_tellTop_21 : decode cX8_tellTop 21 = .ok (.iconst 1, 1) := by decide +kernel
theorem dX8_tellTop_22 : decode cX8_tellTop 22 = .ok (.if_icmp .eq 6, 3) := by decide +kernel
theorem dX8_tellTop_25 : decode cX8_tellTop 25 = .ok (.bipush (-2), 2) := by decide +kernel
theorem dX8_tellTop_27 : decode cX8_tellTop 27 = .ok (.ireturn, 1) := by decide +kernel
theorem dX8_tellTop_28 : decode cX8_tellTop 28 = .ok (.aload_n 0, 1) := by decide +kernel
theorem dX8_tellTop_29 : decode cX8_tellTop 29 = .ok (.getfield 37, 3) := by decide +kernel
theorem dX8_tellTop_32 : decode cX8_tellTop 32 = .ok (.iload_n 1, 1) := by decide +kernel
theorem dX8_tellTop_33 : decode cX8_tellTop 33 = .ok (.iload_n 2, 1) := by decide +kernel
theorem dX8_tellTop_34 : decode cX8_tellTop 34 = .ok (.invokevirtual 141, 3) := by decide +kernel
theorem dX8_tellTop_37 : decode cX8_tellTop 37 = .ok (.ireturn, 1) := by decide +kernel
set_option maxRecDepth 20000 in
theorem ggX8_tellAs_X8_noSlot : GoodIn wsX8_tellAs wsX8_noSlot := goodIn_r _ [6] (by decide +kernel) (by decide +kernel)
set_option maxRecDepth 20000 in
theorem gX8_tellAs_X8_noSlot : GoodIn wsX8_tellAs (va_wsS RX8 88 yX8_noSlot wsX8_noSlot) := goodIn_app (goodIn_of _ (by decide +kernel)) ggX8_tellAs_X8_noSlot
set_option maxRecDepth 20000 in
theorem ggX8_tellAs_X5_linesAs : GoodIn wsX8_tellAs wsX5_linesAs := goodIn_r _ [11, 12, 13, 14, 10, 15, 16, 17, 18, 19, 20, 21, 22, 23, 24, 25, 26, 27, 28, 29, 30, 31, 32, 33, 34, 35, 36, 37, 38, 39, 40, 41, 42, 43, 44, 45, 46, 47, 48, 49, 50, 51, 52, 53, 54, 55, 80, 81, 82, 83, 84, 85, 86, 87, 88, 89, 90, 91, 92, 93, 94, 95] (by decide +kernel) (by decide +kernel)
set_option maxRecDepth 20000 in
theorem gX8_tellAs_X5_linesAs : GoodIn wsX8_tellAs (wsV RX8 145 RX5 yX5_linesAs wsX5_linesAs) := goodIn_app (goodIn_of _ (by decide +kernel)) ggX8_tellAs_X5_linesAs
set_option maxRecDepth 20000 in
theorem ggX8_tellAs_X5_topsAs : GoodIn wsX8_tellAs wsX5_topsAs := goodIn_r _ [59, 16, 60, 61, 62, 21, 63, 23, 24, 64, 65, 10, 66, 67, 68, 69, 70, 47, 71, 80, 81, 82, 83, 84, 85, 86, 87, 88, 89] (by decide +kernel) (by decide +kernel)
set_option maxRecDepth 20000 in
theorem gX8_tellAs_X5_topsAs : GoodIn wsX8_tellAs (wsV RX8 148 RX5 yX5_topsAs wsX5_topsAs) := goodIn_app (goodIn_of _ (by decide +kernel)) ggX8_tellAs_X5_topsAs
theorem dX8_tellAs_0 : decode cX8_tellAs 0 = .ok (.iload_n 1, 1) := by decide +kernel
theorem dX8_tellAs_1 : decode cX8_tellAs 1 = .ok (.invokestatic 88, 3) := by decide +kernel
theorem dX8_tellAs_4 : decode cX8_tellAs 4 = .ok (.ifCond .eq 5, 3) := by decide +kernel
theorem dX8_tellAs_7 : decode cX8_tellAs 7 = .ok (.iconst (-1), 1) := by decide +kernel
theorem dX8_tellAs_8 : decode cX8_tellAs 8 = .ok (.ireturn, 1) := by decide +kernel
theorem dX8_tellAs_9 : decode cX8_tellAs 9 = .ok (.aload_n 0, 1) := by decide +kernel
theorem dX8_tellAs_10 : decode cX8_tellAs 10 = .ok (.getfield 37, 3) := by decide +kernel
theorem dX8_tellAs_13 : decode cX8_tellAs 13 = .ok (.aload_n 0, 1) := by decide +kernel
theorem dX8_tellAs_14 : decode cX8_tellAs 14 = .ok (.getfield 20, 3) := by decide +kernel
theorem dX8_tellAs_17 : decode cX8_tellAs 17 = .ok (.iload_n 1, 1) := by decide +kernel
theorem dX8_tellAs_18 : decode cX8_tellAs 18 = .ok (.aaload, 1) := by decide +kernel
theorem dX8_tellAs_19 : decode cX8_tellAs 19 = .ok (.invokevirtual 145, 3) := by decide +kernel
theorem dX8_tellAs_22 : decode cX8_tellAs 22 = .ok (.istore_n 3, 1) := by decide +kernel
theorem dX8_tellAs_23 : decode cX8_tellAs 23 = .ok (.iload_n 2, 1) := by decide +kernel
theorem dX8_tellAs_24 : decode cX8_tellAs 24 = .ok (.ifCond .eq 21, 3) := by decide +kernel
theorem dX8_tellAs_27 : decode cX8_tellAs 27 = .ok (.iload_n 3, 1) := by decide +kernel
theorem dX8_tellAs_28 : decode cX8_tellAs 28 = .ok (.aload_n 0, 1) := by decide +kernel
theorem dX8_tellAs_29 : decode cX8_tellAs 29 = .ok (.getfield 37, 3) := by decide +kernel
theorem dX8_tellAs_32 : decode cX8_tellAs 32 = .ok (.aload_n 0, 1) := by decide +kernel
theorem dX8_tellAs_33 : decode cX8_tellAs 33 = .ok (.getfield 20, 3) := by decide +kernel
theorem dX8_tellAs_36 : decode cX8_tellAs 36 = .ok (.iload_n 1, 1) := by decide +kernel
theorem dX8_tellAs_37 : decode cX8_tellAs 37 = .ok (.aaload, 1) := by decide +kernel
theorem dX8_tellAs_38 : decode cX8_tellAs 38 = .ok (.invokevirtual 148, 3) := by decide +kernel
theorem dX8_tellAs_41 : decode cX8_tellAs 41 = .ok (.iadd, 1) := by decide +kernel
theorem dX8_tellAs_42 : decode cX8_tellAs 42 = .ok (.goto 4, 3) := by decide +kernel
theorem dX8_tellAs_45 : decode cX8_tellAs 45 = .ok (.iload_n 3, 1) := by decide +kernel
theorem dX8_tellAs_46 : decode cX8_tellAs 46 = .ok (.ireturn, 1) := by decide +kernel
set_option maxRecDepth 20000 in
theorem ggX8_fits_X8_noSlot : GoodIn wsX8_fits wsX8_noSlot := goodIn_r _ [6] (by decide +kernel) (by decide +kernel)
set_option maxRecDepth 20000 in
theorem gX8_fits_X8_noSlot : GoodIn wsX8_fits (va_wsS RX8 88 yX8_noSlot wsX8_noSlot) := goodIn_app (goodIn_of _ (by decide +kernel)) ggX8_fits_X8_noSlot
set_option maxRecDepth 20000 in
theorem ggX8_fits_X5_agrees : GoodIn wsX8_fits wsX5_agrees := goodIn_r _ [11, 12, 13, 14, 10, 15, 16, 17, 18, 19, 20, 21, 22, 23, 24, 25, 26, 27, 28, 29, 30, 31, 32, 33, 34, 35, 36, 37, 38, 39, 40, 41, 42, 43, 44, 45, 46, 47, 48, 49, 50, 51, 52, 53, 54, 55, 56, 57, 58, 59, 60, 61, 62, 63, 64, 65, 66, 75, 76, 77, 78, 79, 80, 81, 82, 83, 84, 85, 86, 87, 88, 89, 90] (by decide +kernel) (by decide +kernel)
set_option maxRecDepth 20000 in
theorem gX8_fits_X5_agrees : GoodIn wsX8_fits (wsV RX8 151 RX5 yX5_agrees wsX5_agrees) := goodIn_app (goodIn_of _ (by decide +kernel)) ggX8_fits_X5_agrees
theorem dX8_fits_0 : decode cX8_fits 0 = .ok (.iload_n 1, 1) := by decide +kernel
theorem dX8_fits_1 : decode cX8_fits 1 = .ok (.invokestatic 88, 3) := by decide +kernel
theorem dX8_fits_4 : decode cX8_fits 4 = .ok (.ifCond .eq 5, 3) := by decide +kernel
theorem dX8_fits_7 : decode cX8_fits 7 = .ok (.iconst (-1), 1) := by decide +kernel
theorem dX8_fits_8 : decode cX8_fits 8 = .ok (.ireturn, 1) := by decide +kernel
theorem dX8_fits_9 : decode cX8_fits 9 = .ok (.aload_n 0, 1) := by decide +kernel
theorem dX8_fits_10 : decode cX8_fits 10 = .ok (.getfield 37, 3) := by decide +kernel
theorem dX8_fits_13 : decode cX8_fits 13 = .ok (.aload_n 0, 1) := by decide +kernel
theorem dX8_fits_14 : decode cX8_fits 14 = .ok (.getfield 20, 3) := by decide +kernel
theorem dX8_fits_17 : decode cX8_fits 17 = .ok (.iload_n 1, 1) := by decide +kernel
theorem dX8_fits_18 : decode cX8_fits 18 = .ok (.aaload, 1) := by decide +kernel
theorem dX8_fits_19 : decode cX8_fits 19 = .ok (.invokevirtual 151, 3) := by decide +kernel
theorem dX8_fits_22 : decode cX8_fits 22 = .ok (.ifCond .eq 7, 3) := by decide +kernel
theorem dX8_fits_25 : decode cX8_fits 25 = .ok (.iconst 1, 1) := by decide +kernel
theorem dX8_fits_26 : decode cX8_fits 26 = .ok (.goto 4, 3) := by decide +kernel
theorem dX8_fits_29 : decode cX8_fits 29 = .ok (.iconst 0, 1) := by decide +kernel
theorem dX8_fits_30 : decode cX8_fits 30 = .ok (.ireturn, 1) := by decide +kernel
set_option maxRecDepth 20000 in
theorem ggX8_heaps_X8_fitted : GoodIn wsX8_heaps wsX8_fitted := goodIn_r _ [5, 6, 7, 8, 9, 10, 11, 12, 13, 14, 15, 16, 17, 18, 19, 20, 21, 22, 23, 24, 25, 26, 27, 28, 29, 30, 31, 32, 33, 34, 35, 36, 37, 38, 39, 40, 41, 42, 43, 44, 45, 46, 47, 48, 49, 50, 51, 52, 53, 54, 55, 56, 57, 58, 59, 60, 61, 62, 63, 64, 65, 66, 67, 68, 69, 70, 71, 72, 73, 74, 75, 76, 77, 78, 79, 80, 81, 82, 83, 84, 85, 86, 87, 88, 89, 90, 91, 92, 93, 94, 95, 96, 97, 98, 99, 100, 101, 102, 103, 104, 105, 106, 107, 108, 109, 110, 111, 112, 113, 114, 115, 116, 117, 118, 119, 120, 121, 122, 123, 124, 125, 126, 131, 132, 133, 134, 135, 136, 137, 138, 139, 140, 141, 142, 143, 144, 145, 146, 147, 148, 149, 150, 151, 152, 153, 154, 155, 156, 157, 158, 159, 160] (by decide +kernel) (by decide +kernel)
set_option maxRecDepth 20000 in
theorem gX8_heaps_X8_fitted : GoodIn wsX8_heaps (wsV RX8 155 RX8 yX8_fitted wsX8_fitted) := goodIn_app (goodIn_of _ (by decide +kernel)) ggX8_heaps_X8_fitted
set_option maxRecDepth 20000 in
theorem ggX8_heaps_X1_all : GoodIn wsX8_heaps wsX1_all := goodIn_r _ [130, 118, 139, 140, 141, 142, 143, 144, 145, 146, 147, 148] (by decide +kernel) (by decide +kernel)
set_option maxRecDepth 20000 in
theorem gX8_heaps_X1_all : GoodIn wsX8_heaps (wsV RX8 159 RX1 yX1_all wsX1_all) := goodIn_app (goodIn_of _ (by decide +kernel)) ggX8_heaps_X1_all
theorem dX8_heaps_0 : decode cX8_heaps 0 = .ok (.aload_n 0, 1) := by decide +kernel
theorem dX8_heaps_1 : decode cX8_heaps 1 = .ok (.invokevirtual 155, 3) := by decide +kernel
theorem dX8_heaps_4 : decode cX8_heaps 4 = .ok (.invokevirtual 159, 3) := by decide +kernel
theorem dX8_heaps_7 : decode cX8_heaps 7 = .ok (.lreturn, 1) := by decide +kernel
set_option maxRecDepth 20000 in
theorem ggX8_with_X8_noCell : GoodIn wsX8_with wsX8_noCell := goodIn_r _ [7, 8, 9, 10, 11, 12, 13, 14, 15, 146, 147, 148, 149, 150, 151, 152, 153, 154, 155, 156, 157, 158] (by decide +kernel) (by decide +kernel)
set_option maxRecDepth 20000 in
theorem gX8_with_X8_noCell : GoodIn wsX8_with (wsV RX8 92 RX8 yX8_noCell wsX8_noCell) := goodIn_app (goodIn_of _ (by decide +kernel)) ggX8_with_X8_noCell
set_option maxRecDepth 20000 in
theorem ggX8_with_X8_fitted : GoodIn wsX8_with wsX8_fitted := goodIn_r _ [19, 20, 21, 22, 23, 24, 25, 26, 27, 28, 29, 30, 31, 32, 33, 34, 35, 36, 37, 38, 39, 40, 41, 42, 10, 11, 12, 13, 14, 15, 43, 44, 45, 46, 47, 48, 49, 50, 51, 52, 53, 54, 55, 56, 57, 58, 59, 60, 61, 62, 63, 64, 65, 66, 67, 68, 69, 70, 71, 72, 73, 74, 75, 76, 77, 78, 79, 80, 81, 82, 83, 84, 85, 86, 87, 88, 89, 90, 91, 92, 93, 94, 95, 96, 97, 98, 99, 100, 101, 102, 103, 104, 105, 106, 107, 108, 109, 110, 111, 112, 113, 114, 115, 116, 117, 118, 119, 120, 121, 122, 123, 124, 125, 126, 127, 128, 129, 130, 131, 132, 133, 134, 146, 147, 148, 149, 150, 151, 152, 153, 159, 160, 161, 162, 163, 164, 165, 166, 167, 168, 169, 170, 171, 172, 173, 154, 155, 156, 157, 158, 174, 175] (by decide +kernel) (by decide +kernel)
set_option maxRecDepth 20000 in
theorem gX8_with_X8_fitted : GoodIn wsX8_with (wsV RX8 155 RX8 yX8_fitted wsX8_fitted) := goodIn_app (goodIn_of _ (by decide +kernel)) ggX8_with_X8_fitted
set_option maxRecDepth 20000 in
theorem ggX8_with_X1_having : GoodIn wsX8_with wsX1_having := goodIn_r _ [138, 41, 83, 126, 139, 140, 24, 141, 142, 143, 144, 145, 39, 40, 103, 104, 105, 106, 38, 43, 44, 45, 12, 46, 47, 107, 108, 109, 110, 111, 112, 113, 114, 14, 15, 115, 116, 117, 118, 119, 120, 121, 159, 160, 161, 162, 163, 164, 165, 166, 167, 168, 154, 155, 156, 157, 158] (by decide +kernel) (by decide +kernel)
set_option maxRecDepth 20000 in
theorem gX8_with_X1_having : GoodIn wsX8_with (wsV RX8 167 RX1 yX1_having wsX1_having) := goodIn_app (goodIn_of _ (by decide +kernel)) ggX8_with_X1_having
theorem dX8_with_0 : decode cX8_with 0 = .ok (.aload_n 0, 1) := by decide +kernel
theorem dX8_with_1 : decode cX8_with 1 = .ok (.iload_n 1, 1) := by decide +kernel
theorem dX8_with_2 : decode cX8_with 2 = .ok (.invokevirtual 92, 3) := by decide +kernel
theorem dX8_with_5 : decode cX8_with 5 = .ok (.ifCond .eq 7, 3) := by decide +kernel
theorem dX8_with_8 : decode cX8_with 8 = .ok (.ldc2_w 163, 3) := by decide +kernel
theorem dX8_with_11 : decode cX8_with 11 = .ok (.lreturn, 1) := by decide +kernel
theorem dX8_with_12 : decode cX8_with 12 = .ok (.iload_n 2, 1) := by decide +kernel
theorem dX8_with_13 : decode cX8_with 13 = .ok (.ifCond .lt 8, 3) := by decide +kernel
theorem dX8_with_16 : decode cX8_with 16 = .ok (.iload_n 2, 1) := by decide +kernel
theorem dX8_with_17 : decode cX8_with 17 = .ok (.iconst 4, 1) := by decide +kernel
theorem dX8_with_18 : decode cX8_with 18 = .ok (.if_icmp .le 7, 3) := by decide +kernel
theorem dX8_with_21 : decode cX8_with 21 = .ok (.ldc2_w 165, 3) := by decide +kernel
theorem dX8_with_24 : decode cX8_with 24 = .ok (.lreturn, 1) := by decide +kernel
theorem dX8_with_25 : decode cX8_with 25 = .ok (.aload_n 0, 1) := by decide +kernel
theorem dX8_with_26 : decode cX8_with 26 = .ok (.invokevirtual 155, 3) := by decide +kernel
theorem dX8_with_29 : decode cX8_with 29 = .ok (.iload_n 1, 1) := by decide +kernel
theorem dX8_with_30 : decode cX8_with 30 = .ok (.iload_n 2, 1) := by decide +kernel
theorem dX8_with_31 : decode cX8_with 31 = .ok (.invokevirtual 167, 3) := by decide +kernel
theorem dX8_with_34 : decode cX8_with 34 = .ok (.lreturn, 1) := by decide +kernel
set_option maxRecDepth 20000 in
theorem ggX8_span_X8_noCell : GoodIn wsX8_span wsX8_noCell := goodIn_r _ [5, 6, 7, 8, 9, 10, 11, 12, 13, 148, 149, 150, 151, 152, 153, 154, 155, 156, 157, 158, 159, 160] (by decide +kernel) (by decide +kernel)
set_option maxRecDepth 20000 in
theorem gX8_span_X8_noCell : GoodIn wsX8_span (wsV RX8 92 RX8 yX8_noCell wsX8_noCell) := goodIn_app (goodIn_of _ (by decide +kernel)) ggX8_span_X8_noCell
set_option maxRecDepth 20000 in
theorem ggX8_span_X8_fitted : GoodIn wsX8_span wsX8_fitted := goodIn_r _ [17, 18, 19, 20, 21, 22, 23, 24, 25, 26, 27, 28, 29, 30, 31, 32, 33, 34, 35, 36, 37, 38, 39, 40, 8, 9, 10, 11, 12, 13, 41, 42, 43, 44, 45, 46, 47, 48, 49, 50, 51, 52, 53, 54, 55, 56, 57, 58, 59, 60, 61, 62, 63, 64, 65, 66, 67, 68, 69, 70, 71, 72, 73, 74, 75, 76, 77, 78, 79, 80, 81, 82, 83, 84, 85, 86, 87, 88, 89, 90, 91, 92, 93, 94, 95, 96, 97, 98, 99, 100, 101, 102, 103, 104, 105, 106, 107, 108, 109, 110, 111, 112, 113, 114, 115, 116, 117, 118, 119, 120, 121, 122, 123, 124, 125, 126, 127, 128, 129, 130, 131, 132, 148, 149, 150, 151, 152, 153, 154, 155, 161, 162, 163, 164, 165, 166, 167, 168, 169, 170, 171, 172, 173, 174, 175, 156, 157, 158, 159, 160, 176, 177] (by decide +kernel) (by decide +kernel)
set_option maxRecDepth 20000 in
theorem gX8_span_X8_fitted : GoodIn wsX8_span (wsV RX8 155 RX8 yX8_fitted wsX8_fitted) := goodIn_app (goodIn_of _ (by decide +kernel)) ggX8_span_X8_fitted
set_option maxRecDepth 20000 in
theorem ggX8_span_X1_extreme : GoodIn wsX8_span wsX1_extreme := goodIn_r _ [136, 137, 138, 139, 22, 140, 39, 81, 124, 141, 142, 143, 144, 145, 146, 147, 37, 38, 101, 102, 103, 104, 36, 41, 42, 43, 10, 44, 45, 105, 106, 107, 108, 109, 110, 111, 112, 12, 13, 113, 114, 115, 116, 117, 118, 119, 161, 162, 163, 164, 165, 166, 167, 168, 169, 170, 156, 157, 158, 159, 160] (by decide +kernel) (by decide +kernel)
set_option maxRecDepth 20000 in
theorem gX8_span_X1_extreme : GoodIn wsX8_span (wsV RX8 171 RX1 yX1_extreme wsX1_extreme) := goodIn_app (goodIn_of _ (by decide +kernel)) ggX8_span_X1_extreme
theorem dX8_span_0 : decode cX8_span 0 = .ok (.aload_n 0, 1) := by decide +kernel
theorem dX8_span_1 : decode cX8_span 1 = .ok (.iload_n 1, 1) := by decide +kernel
theorem dX8_span_2 : decode cX8_span 2 = .ok (.invokevirtual 92, 3) := by decide +kernel
theorem dX8_span_5 : decode cX8_span 5 = .ok (.ifCond .eq 5, 3) := by decide +kernel
theorem dX8_span_8 : decode cX8_span 8 = .ok (.iconst (-1), 1) := by decide +kernel
theorem dX8_span_9 : decode cX8_span 9 = .ok (.ireturn, 1) := by decide +kernel
theorem dX8_span_10 : decode cX8_span 10 = .ok (.aload_n 0, 1) := by decide +kernel
theorem dX8_span_11 : decode cX8_span 11 = .ok (.invokevirtual 155, 3) := by decide +kernel
theorem dX8_span_14 : decode cX8_span 14 = .ok (.iload_n 1, 1) := by decide +kernel
theorem dX8_span_15 : decode cX8_span 15 = .ok (.iload_n 2, 1) := by decide +kernel
theorem dX8_span_16 : decode cX8_span 16 = .ok (.invokevirtual 171, 3) := by decide +kernel
theorem dX8_span_19 : decode cX8_span 19 = .ok (.ireturn, 1) := by decide +kernel
set_option maxRecDepth 20000 in
theorem ggX8_count_X8_fitted : GoodIn wsX8_count wsX8_fitted := goodIn_r _ [6, 1, 7, 8, 9, 10, 11, 12, 13, 14, 15, 16, 17, 18, 19, 20, 21, 22, 23, 24, 25, 26, 27, 28, 29, 30, 31, 32, 33, 34, 35, 36, 37, 38, 39, 40, 41, 42, 43, 44, 45, 46, 47, 48, 49, 50, 51, 52, 53, 54, 55, 56, 57, 58, 59, 60, 61, 62, 63, 64, 65, 66, 67, 68, 69, 70, 71, 72, 73, 74, 75, 76, 77, 78, 79, 80, 81, 82, 83, 84, 85, 86, 87, 88, 89, 90, 91, 92, 93, 94, 95, 96, 97, 98, 99, 100, 101, 102, 103, 104, 105, 106, 107, 108, 109, 110, 111, 112, 113, 114, 115, 116, 117, 118, 119, 120, 121, 122, 123, 124, 125, 126, 162, 163, 164, 165, 166, 167, 168, 169, 170, 171, 172, 173, 174, 175, 176, 177, 178, 179, 180, 181, 182, 183, 184, 185, 186, 187, 188, 189, 190, 191] (by decide +kernel) (by decide +kernel)
set_option maxRecDepth 20000 in
theorem gX8_count_X8_fitted : GoodIn wsX8_count (wsV RX8 155 RX8 yX8_fitted wsX8_fitted) := goodIn_app (goodIn_of _ (by decide +kernel)) ggX8_count_X8_fitted
set_option maxRecDepth 20000 in
theorem ggX8_count_X1_all : GoodIn wsX8_count wsX1_all := goodIn_r _ [130, 118, 170, 171, 172, 173, 174, 175, 176, 177, 178, 179] (by decide +kernel) (by decide +kernel)
set_option maxRecDepth 20000 in
theorem gX8_count_X1_all : GoodIn wsX8_count (wsV RX8 159 RX1 yX1_all wsX1_all) := goodIn_app (goodIn_of _ (by decide +kernel)) ggX8_count_X1_all
set_option maxRecDepth 20000 in
theorem ggX8_count_X1_mostCubes : GoodIn wsX8_count wsX1_mostCubes := goodIn_r _ [134, 24, 27, 28, 29, 30, 31, 32, 33, 34, 135, 136, 10, 137, 138, 139, 90, 140, 141, 170, 171, 172, 173, 174, 175, 176, 177, 178, 179, 185, 186, 187, 188, 189] (by decide +kernel) (by decide +kernel)
set_option maxRecDepth 20000 in
theorem gX8_count_X1_mostCubes : GoodIn wsX8_count (wsV RX8 175 RX1 yX1_mostCubes wsX1_mostCubes) := goodIn_app (goodIn_of _ (by decide +kernel)) ggX8_count_X1_mostCubes
set_option maxRecDepth 20000 in
theorem ggX8_count_X1_fewestCubes : GoodIn wsX8_count wsX1_fewestCubes := goodIn_r _ [145, 146, 24, 147, 148, 149, 78, 150, 28, 29, 30, 31, 32, 33, 34, 151, 152, 153, 10, 154, 155, 156, 157, 158, 84, 85, 86, 87, 27, 25, 26, 159, 160, 90, 161, 141, 95, 96, 97, 98, 35, 36, 37, 38, 39, 99, 100, 101, 102, 103, 104, 105, 106, 107, 108, 109, 110, 111, 112, 113, 119, 120, 121, 122, 170, 171, 172, 173, 174, 175, 176, 177, 178, 179, 185, 186, 187, 188, 189] (by decide +kernel) (by decide +kernel)
set_option maxRecDepth 20000 in
theorem gX8_count_X1_fewestCubes : GoodIn wsX8_count (wsV RX8 178 RX1 yX1_fewestCubes wsX1_fewestCubes) := goodIn_app (goodIn_of _ (by decide +kernel)) ggX8_count_X1_fewestCubes
theorem dX8_count_0 : decode cX8_count 0 = .ok (.aload_n 0, 1) := by decide +kernel
theorem dX8_count_1 : decode cX8_count 1 = .ok (.invokevirtual 155, 3) := by decide +kernel
theorem dX8_count_4 : decode cX8_count 4 = .ok (.invokevirtual 159, 3) := by decide +kernel
theorem dX8_count_7 : decode cX8_count 7 = .ok (.lconst 0, 1) := by decide +kernel
theorem dX8_count_8 : decode cX8_count 8 = .ok (.lcmp, 1) := by decide +kernel
theorem dX8_count_9 : decode cX8_count 9 = .ok (.ifCond .ne 6, 3) := by decide +kernel
theorem dX8_count_12 : decode cX8_count 12 = .ok (.bipush (-9), 2) := by decide +kernel
theorem dX8_count_14 : decode cX8_count 14 = .ok (.ireturn, 1) := by decide +kernel
theorem dX8_count_15 : decode cX8_count 15 = .ok (.iload_n 1, 1) := by decide +kernel
theorem dX8_count_16 : decode cX8_count 16 = .ok (.ifCond .eq 13, 3) := by decide +kernel
theorem dX8_count_19 : decode cX8_count 19 = .ok (.aload_n 0, 1) := by decide +kernel
theorem dX8_count_20 : decode cX8_count 20 = .ok (.getfield 46, 3) := by decide +kernel
theorem dX8_count_23 : decode cX8_count 23 = .ok (.invokevirtual 175, 3) := by decide +kernel
theorem dX8_count_26 : decode cX8_count 26 = .ok (.goto 10, 3) := by decide +kernel
theorem dX8_count_29 : decode cX8_count 29 = .ok (.aload_n 0, 1) := by decide +kernel
theorem dX8_count_30 : decode cX8_count 30 = .ok (.getfield 46, 3) := by decide +kernel
theorem dX8_count_33 : decode cX8_count 33 = .ok (.invokevirtual 178, 3) := by decide +kernel
theorem dX8_count_36 : decode cX8_count 36 = .ok (.ireturn, 1) := by decide +kernel
set_option maxRecDepth 20000 in
theorem ggX8_lay_X8_noSlot : GoodIn wsX8_lay wsX8_noSlot := goodIn_r _ [7] (by decide +kernel) (by decide +kernel)
set_option maxRecDepth 20000 in
theorem gX8_lay_X8_noSlot : GoodIn wsX8_lay (va_wsS RX8 88 yX8_noSlot wsX8_noSlot) := goodIn_app (goodIn_of _ (by decide +kernel)) ggX8_lay_X8_noSlot
set_option maxRecDepth 20000 in
theorem ggX8_lay_X8_fitted : GoodIn wsX8_lay wsX8_fitted := goodIn_r _ [11, 1, 12, 13, 14, 15, 16, 17, 18, 19, 20, 21, 22, 23, 24, 25, 26, 27, 28, 29, 30, 31, 32, 33, 34, 35, 36, 37, 38, 39, 40, 41, 42, 43, 44, 45, 46, 47, 48, 49, 50, 51, 52, 53, 54, 55, 56, 57, 58, 59, 60, 61, 62, 63, 64, 65, 66, 67, 68, 69, 70, 71, 72, 73, 74, 75, 76, 77, 78, 79, 80, 81, 82, 83, 84, 85, 86, 87, 88, 89, 90, 91, 92, 93, 94, 95, 96, 97, 98, 99, 100, 101, 102, 103, 104, 105, 106, 107, 108, 109, 110, 111, 112, 113, 114, 115, 116, 117, 118, 119, 120, 121, 122, 123, 124, 125, 126, 127, 128, 129, 130, 131, 164, 165, 166, 167, 168, 169, 170, 171, 172, 173, 174, 175, 176, 177, 178, 179, 180, 181, 182, 183, 184, 185, 186, 187, 188, 189, 190, 191, 192, 193] (by decide +kernel) (by decide +kernel)
set_option maxRecDepth 20000 in
theorem gX8_lay_X8_fitted : GoodIn wsX8_lay (wsV RX8 155 RX8 yX8_fitted wsX8_fitted) := goodIn_app (goodIn_of _ (by decide +kernel)) ggX8_lay_X8_fitted
set_option maxRecDepth 20000 in
theorem ggX8_lay_X1_all : GoodIn wsX8_lay wsX1_all := goodIn_r _ [135, 123, 172, 173, 174, 175, 176, 177, 178, 179, 180, 181] (by decide +kernel) (by decide +kernel)
set_option maxRecDepth 20000 in
theorem gX8_lay_X1_all : GoodIn wsX8_lay (wsV RX8 159 RX1 yX1_all wsX1_all) := goodIn_app (goodIn_of _ (by decide +kernel)) ggX8_lay_X1_all
set_option maxRecDepth 20000 in
theorem ggX8_lay_X1_fill : GoodIn wsX8_lay wsX1_fill := goodIn_r _ [139, 29, 140, 141, 142, 143, 33, 34, 35, 36, 37, 38, 39, 144, 145, 146, 15, 147, 32, 123, 148, 149, 150, 151, 152, 153, 154, 155, 156, 157, 158, 30, 31, 100, 101, 102, 103, 40, 41, 42, 43, 44, 104, 105, 106, 107, 108, 109, 110, 111, 116, 117, 118, 172, 173, 174, 175, 176, 177, 178, 179, 180, 181, 187, 188, 189, 190, 191] (by decide +kernel) (by decide +kernel)
set_option maxRecDepth 20000 in
theorem gX8_lay_X1_fill : GoodIn wsX8_lay (wsV RX8 181 RX1 yX1_fill wsX1_fill) := goodIn_app (goodIn_of _ (by decide +kernel)) ggX8_lay_X1_fill
set_option maxRecDepth 20000 in
theorem ggX8_lay_X2_total : GoodIn wsX8_lay wsX2_total := goodIn_r _ [162, 163, 34, 35, 36, 37, 38, 39, 187, 188, 189, 190, 191] (by decide +kernel) (by decide +kernel)
set_option maxRecDepth 20000 in
theorem gX8_lay_X2_total : GoodIn wsX8_lay (wsV RX8 99 RX2 yX2_total wsX2_total) := goodIn_app (goodIn_of _ (by decide +kernel)) ggX8_lay_X2_total
theorem dX8_lay_0 : decode cX8_lay 0 = .ok (.iload_n 1, 1) := by decide +kernel
theorem dX8_lay_1 : decode cX8_lay 1 = .ok (.invokestatic 88, 3) := by decide +kernel
theorem dX8_lay_4 : decode cX8_lay 4 = .ok (.ifCond .eq 5, 3) := by decide +kernel
theorem dX8_lay_7 : decode cX8_lay 7 = .ok (.iconst (-1), 1) := by decide +kernel
theorem dX8_lay_8 : decode cX8_lay 8 = .ok (.ireturn, 1) := by decide +kernel
theorem dX8_lay_9 : decode cX8_lay 9 = .ok (.lload_n 2, 1) := by decide +kernel
theorem dX8_lay_10 : decode cX8_lay 10 = .ok (.lconst 0, 1) := by decide +kernel
theorem dX8_lay_11 : decode cX8_lay 11 = .ok (.lcmp, 1) := by decide +kernel
theorem dX8_lay_12 : decode cX8_lay 12 = .ok (.ifCond .lt 15, 3) := by decide +kernel
theorem dX8_lay_15 : decode cX8_lay 15 = .ok (.lload_n 2, 1) := by decide +kernel
theorem dX8_lay_16 : decode cX8_lay 16 = .ok (.aload_n 0, 1) := by decide +kernel
theorem dX8_lay_17 : decode cX8_lay 17 = .ok (.invokevirtual 155, 3) := by decide +kernel
theorem dX8_lay_20 : decode cX8_lay 20 = .ok (.invokevirtual 159, 3) := by decide +kernel
theorem dX8_lay_23 : decode cX8_lay 23 = .ok (.lcmp, 1) := by decide +kernel
theorem dX8_lay_24 : decode cX8_lay 24 = .ok (.ifCond .lt 6, 3) := by decide +kernel
theorem dX8_lay_27 : decode cX8_lay 27 = .ok (.bipush (-2), 2) := by decide +kernel
theorem dX8_lay_29 : decode cX8_lay 29 = .ok (.ireturn, 1) := by decide +kernel
theorem dX8_lay_30 : decode cX8_lay 30 = .ok (.aload_n 0, 1) := by decide +kernel
theorem dX8_lay_31 : decode cX8_lay 31 = .ok (.getfield 46, 3) := by decide +kernel
theorem dX8_lay_34 : decode cX8_lay 34 = .ok (.aload_n 0, 1) := by decide +kernel
theorem dX8_lay_35 : decode cX8_lay 35 = .ok (.getfield 20, 3) := by decide +kernel
theorem dX8_lay_38 : decode cX8_lay 38 = .ok (.iload_n 1, 1) := by decide +kernel
theorem dX8_lay_39 : decode cX8_lay 39 = .ok (.aaload, 1) := by decide +kernel
theorem dX8_lay_40 : decode cX8_lay 40 = .ok (.lload_n 2, 1) := by decide +kernel
theorem dX8_lay_41 : decode cX8_lay 41 = .ok (.invokevirtual 181, 3) := by decide +kernel
theorem dX8_lay_44 : decode cX8_lay 44 = .ok (.aload_n 0, 1) := by decide +kernel
theorem dX8_lay_45 : decode cX8_lay 45 = .ok (.getfield 14, 3) := by decide +kernel
theorem dX8_lay_48 : decode cX8_lay 48 = .ok (.aload_n 0, 1) := by decide +kernel
theorem dX8_lay_49 : decode cX8_lay 49 = .ok (.getfield 20, 3) := by decide +kernel
theorem dX8_lay_52 : decode cX8_lay 52 = .ok (.iload_n 1, 1) := by decide +kernel
theorem dX8_lay_53 : decode cX8_lay 53 = .ok (.aaload, 1) := by decide +kernel
theorem dX8_lay_54 : decode cX8_lay 54 = .ok (.invokevirtual 99, 3) := by decide +kernel
theorem dX8_lay_57 : decode cX8_lay 57 = .ok (.ireturn, 1) := by decide +kernel
set_option maxRecDepth 20000 in
theorem ggX8_place_X8_noSlot : GoodIn wsX8_place wsX8_noSlot := goodIn_r _ [8] (by decide +kernel) (by decide +kernel)
set_option maxRecDepth 20000 in
theorem gX8_place_X8_noSlot : GoodIn wsX8_place (va_wsS RX8 88 yX8_noSlot wsX8_noSlot) := goodIn_app (goodIn_of _ (by decide +kernel)) ggX8_place_X8_noSlot
set_option maxRecDepth 20000 in
theorem ggX8_place_X5_agrees : GoodIn wsX8_place wsX5_agrees := goodIn_r _ [13, 14, 15, 16, 12, 17, 18, 19, 20, 21, 22, 23, 24, 25, 26, 27, 28, 29, 30, 31, 32, 33, 34, 35, 36, 37, 38, 39, 40, 41, 42, 43, 44, 45, 46, 47, 48, 49, 50, 51, 52, 53, 54, 55, 56, 57, 58, 59, 60, 61, 62, 63, 64, 65, 66, 67, 68, 200, 201, 202, 203, 204, 205, 206, 207, 208, 209, 210, 211, 212, 213, 214, 215] (by decide +kernel) (by decide +kernel)
set_option maxRecDepth 20000 in
theorem gX8_place_X5_agrees : GoodIn wsX8_place (wsV RX8 151 RX5 yX5_agrees wsX5_agrees) := goodIn_app (goodIn_of _ (by decide +kernel)) ggX8_place_X5_agrees
set_option maxRecDepth 20000 in
theorem ggX8_place_X8_fitted : GoodIn wsX8_place wsX8_fitted := goodIn_r _ [72, 73, 74, 75, 76, 77, 78, 79, 80, 81, 82, 83, 12, 84, 85, 86, 87, 88, 89, 90, 91, 92, 93, 94, 63, 64, 23, 65, 25, 26, 95, 96, 97, 98, 99, 100, 28, 29, 30, 31, 32, 33, 34, 35, 36, 37, 38, 101, 102, 103, 104, 105, 106, 107, 108, 109, 110, 111, 112, 113, 114, 115, 61, 116, 117, 118, 119, 120, 121, 122, 123, 124, 125, 126, 127, 128, 129, 130, 131, 132, 133, 134, 135, 136, 137, 138, 139, 140, 141, 142, 143, 144, 145, 146, 147, 148, 149, 150, 151, 21, 22, 24, 152, 153, 154, 155, 156, 157, 158, 159, 160, 161, 162, 163, 164, 165, 166, 167, 168, 169, 170, 171, 192, 193, 194, 195, 196, 197, 198, 199, 216, 217, 218, 219, 220, 221, 222, 223, 224, 225, 200, 201, 202, 203, 204, 205, 206, 207, 208, 209, 210, 211] (by decide +kernel) (by decide +kernel)
set_option maxRecDepth 20000 in
theorem gX8_place_X8_fitted : GoodIn wsX8_place (wsV RX8 155 RX8 yX8_fitted wsX8_fitted) := goodIn_app (goodIn_of _ (by decide +kernel)) ggX8_place_X8_fitted
set_option maxRecDepth 20000 in
theorem ggX8_place_X1_smaller : GoodIn wsX8_place wsX1_smaller := goodIn_r _ [175, 90, 176, 46, 47, 48, 94, 63, 64, 23, 65, 25, 26, 177, 178, 179, 77, 180, 93, 163, 181, 182, 183, 184, 185, 186, 187, 188, 189, 190, 191, 91, 92, 143, 144, 145, 146, 95, 96, 97, 98, 99, 147, 148, 149, 150, 151, 21, 22, 24, 156, 157, 158, 216, 217, 218, 219, 220, 221, 222, 223, 224, 225, 205, 206, 207, 208, 209] (by decide +kernel) (by decide +kernel)
set_option maxRecDepth 20000 in
theorem gX8_place_X1_smaller : GoodIn wsX8_place (wsV RX8 186 RX1 yX1_smaller wsX1_smaller) := goodIn_app (goodIn_of _ (by decide +kernel)) ggX8_place_X1_smaller
theorem dX8_place_0 : decode cX8_place 0 = .ok (.iload_n 1, 1) := by decide +kernel
theorem dX8_place_1 : decode cX8_place 1 = .ok (.invokestatic 88, 3) := by decide +kernel
theorem dX8_place_4 : decode cX8_place 4 = .ok (.ifCond .eq 7, 3) := by decide +kernel
theorem dX8_place_7 : decode cX8_place 7 = .ok (.ldc2_w 163, 3) := by decide +kernel
theorem dX8_place_10 : decode cX8_place 10 = .ok (.lreturn, 1) := by decide +kernel
theorem dX8_place_11 : decode cX8_place 11 = .ok (.aload_n 0, 1) := by decide +kernel
theorem dX8_place_12 : decode cX8_place 12 = .ok (.getfield 37, 3) := by decide +kernel
theorem dX8_place_15 : decode cX8_place 15 = .ok (.aload_n 0, 1) := by decide +kernel
theorem dX8_place_16 : decode cX8_place 16 = .ok (.getfield 20, 3) := by decide +kernel
theorem dX8_place_19 : decode cX8_place 19 = .ok (.iload_n 1, 1) := by decide +kernel
theorem dX8_place_20 : decode cX8_place 20 = .ok (.aaload, 1) := by decide +kernel
theorem dX8_place_21 : decode cX8_place 21 = .ok (.invokevirtual 151, 3) := by decide +kernel
theorem dX8_place_24 : decode cX8_place 24 = .ok (.ifCond .ne 7, 3) := by decide +kernel
theorem dX8_place_27 : decode cX8_place 27 = .ok (.ldc2_w 184, 3) := by decide +kernel
theorem dX8_place_30 : decode cX8_place 30 = .ok (.lreturn, 1) := by decide +kernel
theorem dX8_place_31 : decode cX8_place 31 = .ok (.aload_n 0, 1) := by decide +kernel
theorem dX8_place_32 : decode cX8_place 32 = .ok (.invokevirtual 155, 3) := by decide +kernel
theorem dX8_place_35 : decode cX8_place 35 = .ok (.aload_n 0, 1) := by decide +kernel
theorem dX8_place_36 : decode cX8_place 36 = .ok (.getfield 20, 3) := by decide +kernel
theorem dX8_place_39 : decode cX8_place 39 = .ok (.iload_n 1, 1) := by decide +kernel
theorem dX8_place_40 : decode cX8_place 40 = .ok (.aaload, 1) := by decide +kernel
theorem dX8_place_41 : decode cX8_place 41 = .ok (.invokevirtual 186, 3) := by decide +kernel
theorem dX8_place_44 : decode cX8_place 44 = .ok (.lreturn, 1) := by decide +kernel
set_option maxRecDepth 20000 in
theorem ggX8_tellSum_X8_noLine : GoodIn wsX8_tellSum wsX8_noLine := goodIn_r _ [6, 7, 8, 9, 10, 11, 12, 13, 14, 28, 29, 30, 31, 32, 33, 34, 35, 36, 37, 38, 39, 40] (by decide +kernel) (by decide +kernel)
set_option maxRecDepth 20000 in
theorem gX8_tellSum_X8_noLine : GoodIn wsX8_tellSum (wsV RX8 103 RX8 yX8_noLine wsX8_noLine) := goodIn_app (goodIn_of _ (by decide +kernel)) ggX8_tellSum_X8_noLine
set_option maxRecDepth 20000 in
theorem ggX8_tellSum_X4_put : GoodIn wsX8_tellSum wsX4_put := goodIn_r _ [19, 20, 21, 22, 23, 24, 25, 26, 27, 41, 42, 43, 44, 45, 46, 47, 48, 49, 50, 51, 52] (by decide +kernel) (by decide +kernel)
set_option maxRecDepth 20000 in
theorem gX8_tellSum_X4_put : GoodIn wsX8_tellSum (wsV RX8 190 RX4 yX4_put wsX4_put) := goodIn_app (goodIn_of _ (by decide +kernel)) ggX8_tellSum_X4_put
theorem dX8_tellSum_0 : decode cX8_tellSum 0 = .ok (.aload_n 0, 1) := by decide +kernel
theorem dX8_tellSum_1 : decode cX8_tellSum 1 = .ok (.iload_n 1, 1) := by decide +kernel
theorem dX8_tellSum_2 : decode cX8_tellSum 2 = .ok (.iload_n 2, 1) := by decide +kernel
theorem dX8_tellSum_3 : decode cX8_tellSum 3 = .ok (.invokevirtual 103, 3) := by decide +kernel
theorem dX8_tellSum_6 : decode cX8_tellSum 6 = .ok (.ifCond .eq 5, 3) := by decide +kernel
theorem dX8_tellSum_9 : decode cX8_tellSum 9 = .ok (.iconst (-1), 1) := by decide +kernel
theorem dX8_tellSum_10 : decode cX8_tellSum 10 = .ok (.ireturn, 1) := by decide +kernel
theorem dX8_tellSum_11 : decode cX8_tellSum 11 = .ok (.iload_n 3, 1) := by decide +kernel
theorem dX8_tellSum_12 : decode cX8_tellSum 12 = .ok (.ifCond .lt 9, 3) := by decide +kernel
theorem dX8_tellSum_15 : decode cX8_tellSum 15 = .ok (.iload_n 3, 1) := by decide +kernel
theorem dX8_tellSum_16 : decode cX8_tellSum 16 = .ok (.bipush 20, 2) := by decide +kernel
theorem dX8_tellSum_18 : decode cX8_tellSum 18 = .ok (.if_icmp .le 6, 3) := by decide +kernel
theorem dX8_tellSum_21 : decode cX8_tellSum 21 = .ok (.bipush (-2), 2) := by decide +kernel
theorem dX8_tellSum_23 : decode cX8_tellSum 23 = .ok (.ireturn, 1) := by decide +kernel
theorem dX8_tellSum_24 : decode cX8_tellSum 24 = .ok (.aload_n 0, 1) := by decide +kernel
theorem dX8_tellSum_25 : decode cX8_tellSum 25 = .ok (.getfield 53, 3) := by decide +kernel
theorem dX8_tellSum_28 : decode cX8_tellSum 28 = .ok (.iload_n 1, 1) := by decide +kernel
theorem dX8_tellSum_29 : decode cX8_tellSum 29 = .ok (.iload_n 2, 1) := by decide +kernel
theorem dX8_tellSum_30 : decode cX8_tellSum 30 = .ok (.iload_n 3, 1) := by decide +kernel
theorem dX8_tellSum_31 : decode cX8_tellSum 31 = .ok (.invokevirtual 190, 3) := by decide +kernel
theorem dX8_tellSum_34 : decode cX8_tellSum 34 = .ok (.ireturn, 1) := by decide +kernel
set_option maxRecDepth 20000 in
theorem ggX8_sumsAs_X8_noSlot : GoodIn wsX8_sumsAs wsX8_noSlot := goodIn_r _ [7] (by decide +kernel) (by decide +kernel)
set_option maxRecDepth 20000 in
theorem gX8_sumsAs_X8_noSlot : GoodIn wsX8_sumsAs (va_wsS RX8 88 yX8_noSlot wsX8_noSlot) := goodIn_app (goodIn_of _ (by decide +kernel)) ggX8_sumsAs_X8_noSlot
set_option maxRecDepth 20000 in
theorem ggX8_sumsAs_X4_takeFrom : GoodIn wsX8_sumsAs wsX4_takeFrom := goodIn_r _ [12, 13, 14, 15, 11, 16, 17, 18, 19, 20, 21, 22, 23, 24, 25, 26, 27, 28, 29, 30, 31, 32, 33, 34, 35, 36, 37, 38, 39, 40, 41, 42, 43, 44, 45, 46, 47, 48, 65, 66, 67, 68, 69, 70, 71, 72, 73, 74, 75, 76, 77, 78, 79, 80, 81] (by decide +kernel) (by decide +kernel)
set_option maxRecDepth 20000 in
theorem gX8_sumsAs_X4_takeFrom : GoodIn wsX8_sumsAs (wsV RX8 193 RX4 yX4_takeFrom wsX4_takeFrom) := goodIn_app (goodIn_of _ (by decide +kernel)) ggX8_sumsAs_X4_takeFrom
set_option maxRecDepth 20000 in
theorem ggX8_sumsAs_X2_total : GoodIn wsX8_sumsAs wsX2_total := goodIn_r _ [52, 53, 54, 55, 21, 56, 23, 24, 75, 76, 77, 78, 79] (by decide +kernel) (by decide +kernel)
set_option maxRecDepth 20000 in
theorem gX8_sumsAs_X2_total : GoodIn wsX8_sumsAs (wsV RX8 99 RX2 yX2_total wsX2_total) := goodIn_app (goodIn_of _ (by decide +kernel)) ggX8_sumsAs_X2_total
theorem dX8_sumsAs_0 : decode cX8_sumsAs 0 = .ok (.iload_n 1, 1) := by decide +kernel
theorem dX8_sumsAs_1 : decode cX8_sumsAs 1 = .ok (.invokestatic 88, 3) := by decide +kernel
theorem dX8_sumsAs_4 : decode cX8_sumsAs 4 = .ok (.ifCond .eq 5, 3) := by decide +kernel
theorem dX8_sumsAs_7 : decode cX8_sumsAs 7 = .ok (.iconst (-1), 1) := by decide +kernel
theorem dX8_sumsAs_8 : decode cX8_sumsAs 8 = .ok (.ireturn, 1) := by decide +kernel
theorem dX8_sumsAs_9 : decode cX8_sumsAs 9 = .ok (.aload_n 0, 1) := by decide +kernel
theorem dX8_sumsAs_10 : decode cX8_sumsAs 10 = .ok (.getfield 53, 3) := by decide +kernel
theorem dX8_sumsAs_13 : decode cX8_sumsAs 13 = .ok (.aload_n 0, 1) := by decide +kernel
theorem dX8_sumsAs_14 : decode cX8_sumsAs 14 = .ok (.getfield 20, 3) := by decide +kernel
theorem dX8_sumsAs_17 : decode cX8_sumsAs 17 = .ok (.iload_n 1, 1) := by decide +kernel
theorem dX8_sumsAs_18 : decode cX8_sumsAs 18 = .ok (.aaload, 1) := by decide +kernel
theorem dX8_sumsAs_19 : decode cX8_sumsAs 19 = .ok (.invokevirtual 193, 3) := by decide +kernel
theorem dX8_sumsAs_22 : decode cX8_sumsAs 22 = .ok (.aload_n 0, 1) := by decide +kernel
theorem dX8_sumsAs_23 : decode cX8_sumsAs 23 = .ok (.getfield 14, 3) := by decide +kernel
theorem dX8_sumsAs_26 : decode cX8_sumsAs 26 = .ok (.aload_n 0, 1) := by decide +kernel
theorem dX8_sumsAs_27 : decode cX8_sumsAs 27 = .ok (.getfield 20, 3) := by decide +kernel
theorem dX8_sumsAs_30 : decode cX8_sumsAs 30 = .ok (.iload_n 1, 1) := by decide +kernel
theorem dX8_sumsAs_31 : decode cX8_sumsAs 31 = .ok (.aaload, 1) := by decide +kernel
theorem dX8_sumsAs_32 : decode cX8_sumsAs 32 = .ok (.invokevirtual 99, 3) := by decide +kernel
theorem dX8_sumsAs_35 : decode cX8_sumsAs 35 = .ok (.ireturn, 1) := by decide +kernel
set_option maxRecDepth 20000 in
theorem ggX8_bySums_X4_noneOneMore : GoodIn wsX8_bySums wsX4_noneOneMore := goodIn_r _ [6, 7, 8, 9, 10, 5, 11, 12, 13, 14, 15, 16, 17, 18, 19, 20, 21, 22, 23, 24, 25, 26, 27, 28, 29, 30, 31, 32, 33, 34, 35, 36, 37, 38, 39, 40, 41, 42, 43, 44, 45, 46, 47, 48, 49, 50, 51, 52, 53, 54, 55, 56, 57, 58, 59, 60, 61, 62, 63, 64, 65, 66, 67, 68, 69, 70, 71, 72, 73, 74, 75, 76, 77, 78, 79, 80, 81, 82, 83, 84, 85, 86, 87, 88, 89, 90, 91, 92, 93, 94, 95, 96, 97, 98, 99, 100, 101, 102, 103, 112, 113, 114, 115, 116, 117, 118, 119, 120, 121, 122, 123, 124, 125, 126, 127, 128, 129, 130, 131, 132, 133] (by decide +kernel) (by decide +kernel)
set_option maxRecDepth 20000 in
theorem gX8_bySums_X4_noneOneMore : GoodIn wsX8_bySums (wsV RX8 197 RX4 yX4_noneOneMore wsX4_noneOneMore) := goodIn_app (goodIn_of _ (by decide +kernel)) ggX8_bySums_X4_noneOneMore
theorem dX8_bySums_0 : decode cX8_bySums 0 = .ok (.aload_n 0, 1) := by decide +kernel
theorem dX8_bySums_1 : decode cX8_bySums 1 = .ok (.getfield 53, 3) := by decide +kernel
theorem dX8_bySums_4 : decode cX8_bySums 4 = .ok (.invokevirtual 197, 3) := by decide +kernel
theorem dX8_bySums_7 : decode cX8_bySums 7 = .ok (.ireturn, 1) := by decide +kernel
set_option maxRecDepth 20000 in
theorem ggX8_laySums_X8_noSlot : GoodIn wsX8_laySums wsX8_noSlot := goodIn_r _ [7] (by decide +kernel) (by decide +kernel)
set_option maxRecDepth 20000 in
theorem gX8_laySums_X8_noSlot : GoodIn wsX8_laySums (va_wsS RX8 88 yX8_noSlot wsX8_noSlot) := goodIn_app (goodIn_of _ (by decide +kernel)) ggX8_laySums_X8_noSlot
set_option maxRecDepth 20000 in
theorem ggX8_laySums_X4_fillFirst : GoodIn wsX8_laySums wsX4_fillFirst := goodIn_r _ [12, 13, 14, 15, 16, 17, 18, 19, 11, 20, 21, 22, 23, 24, 25, 26, 27, 28, 29, 30, 31, 32, 33, 34, 35, 36, 37, 38, 39, 40, 41, 42, 43, 44, 45, 46, 47, 48, 49, 50, 51, 52, 53, 54, 55, 56, 57, 58, 59, 60, 61, 62, 63, 64, 65, 66, 67, 68, 69, 70, 71, 72, 73, 74, 75, 76, 77, 78, 79, 80, 81, 82, 83, 84, 85, 86, 87, 88, 89, 90, 91, 92, 93, 94, 95, 96, 97, 98, 99, 100, 101, 102, 103, 104, 105, 106, 107, 108, 109, 110, 111, 112, 113, 114, 115, 116, 117, 118, 131, 132, 133, 134, 135, 136, 137, 138, 139, 140, 141, 142, 143, 144, 145, 146, 147, 148, 149, 150, 151, 152] (by decide +kernel) (by decide +kernel)
set_option maxRecDepth 20000 in
theorem gX8_laySums_X4_fillFirst : GoodIn wsX8_laySums (wsV RX8 200 RX4 yX4_fillFirst wsX4_fillFirst) := goodIn_app (goodIn_of _ (by decide +kernel)) ggX8_laySums_X4_fillFirst
set_option maxRecDepth 20000 in
theorem ggX8_laySums_X2_total : GoodIn wsX8_laySums wsX2_total := goodIn_r _ [122, 118, 27, 28, 29, 30, 31, 32, 141, 142, 143, 144, 145] (by decide +kernel) (by decide +kernel)
set_option maxRecDepth 20000 in
theorem gX8_laySums_X2_total : GoodIn wsX8_laySums (wsV RX8 99 RX2 yX2_total wsX2_total) := goodIn_app (goodIn_of _ (by decide +kernel)) ggX8_laySums_X2_total
theorem dX8_laySums_0 : decode cX8_laySums 0 = .ok (.iload_n 1, 1) := by decide +kernel
theorem dX8_laySums_1 : decode cX8_laySums 1 = .ok (.invokestatic 88, 3) := by decide +kernel
theorem dX8_laySums_4 : decode cX8_laySums 4 = .ok (.ifCond .eq 5, 3) := by decide +kernel
theorem dX8_laySums_7 : decode cX8_laySums 7 = .ok (.iconst (-1), 1) := by decide +kernel
theorem dX8_laySums_8 : decode cX8_laySums 8 = .ok (.ireturn, 1) := by decide +kernel
theorem dX8_laySums_9 : decode cX8_laySums 9 = .ok (.aload_n 0, 1) := by decide +kernel
theorem dX8_laySums_10 : decode cX8_laySums 10 = .ok (.getfield 53, 3) := by decide +kernel
theorem dX8_laySums_13 : decode cX8_laySums 13 = .ok (.aload_n 0, 1) := by decide +kernel
theorem dX8_laySums_14 : decode cX8_laySums 14 = .ok (.getfield 20, 3) := by decide +kernel
theorem dX8_laySums_17 : decode cX8_laySums 17 = .ok (.iload_n 1, 1) := by decide +kernel
theorem dX8_laySums_18 : decode cX8_laySums 18 = .ok (.aaload, 1) := by decide +kernel
theorem dX8_laySums_19 : decode cX8_laySums 19 = .ok (.invokevirtual 200, 3) := by decide +kernel
theorem dX8_laySums_22 : decode cX8_laySums 22 = .ok (.ifCond .ne 6, 3) := by decide +kernel
theorem dX8_laySums_25 : decode cX8_laySums 25 = .ok (.bipush (-3), 2) := by decide +kernel
theorem dX8_laySums_27 : decode cX8_laySums 27 = .ok (.ireturn, 1) := by decide +kernel
theorem dX8_laySums_28 : decode cX8_laySums 28 = .ok (.aload_n 0, 1) := by decide +kernel
theorem dX8_laySums_29 : decode cX8_laySums 29 = .ok (.getfield 14, 3) := by decide +kernel
theorem dX8_laySums_32 : decode cX8_laySums 32 = .ok (.aload_n 0, 1) := by decide +kernel
theorem dX8_laySums_33 : decode cX8_laySums 33 = .ok (.getfield 20, 3) := by decide +kernel
theorem dX8_laySums_36 : decode cX8_laySums 36 = .ok (.iload_n 1, 1) := by decide +kernel
theorem dX8_laySums_37 : decode cX8_laySums 37 = .ok (.aaload, 1) := by decide +kernel
theorem dX8_laySums_38 : decode cX8_laySums 38 = .ok (.invokevirtual 99, 3) := by decide +kernel
theorem dX8_laySums_41 : decode cX8_laySums 41 = .ok (.ireturn, 1) := by decide +kernel
set_option maxRecDepth 20000 in
theorem ggX8_spanSums_X8_noCell : GoodIn wsX8_spanSums wsX8_noCell := goodIn_r _ [6, 7, 8, 9, 10, 11, 12, 13, 14, 115, 116, 117, 118, 119, 120, 121, 122, 123, 124, 125, 126, 127] (by decide +kernel) (by decide +kernel)
set_option maxRecDepth 20000 in
theorem gX8_spanSums_X8_noCell : GoodIn wsX8_spanSums (wsV RX8 92 RX8 yX8_noCell wsX8_noCell) := goodIn_app (goodIn_of _ (by decide +kernel)) ggX8_spanSums_X8_noCell
set_option maxRecDepth 20000 in
theorem ggX8_spanSums_X4_extreme : GoodIn wsX8_spanSums wsX4_extreme := goodIn_r _ [19, 20, 21, 22, 23, 18, 24, 25, 26, 27, 28, 29, 30, 31, 32, 33, 9, 10, 11, 12, 13, 14, 34, 35, 36, 37, 38, 39, 40, 41, 42, 43, 44, 45, 46, 47, 48, 49, 50, 51, 52, 53, 54, 55, 56, 57, 58, 59, 60, 61, 62, 63, 64, 65, 66, 67, 68, 69, 70, 71, 72, 73, 74, 75, 76, 77, 78, 79, 80, 81, 82, 83, 84, 85, 86, 87, 88, 89, 90, 91, 92, 93, 94, 95, 96, 97, 98, 99, 100, 101, 102, 103, 104, 105, 106, 107, 108, 109, 110, 111, 112, 113, 114, 128, 129, 130, 131, 132, 133, 134, 135, 136, 137, 123, 124, 125, 126, 127, 138, 139, 140, 141, 142, 143, 144] (by decide +kernel) (by decide +kernel)
set_option maxRecDepth 20000 in
theorem gX8_spanSums_X4_extreme : GoodIn wsX8_spanSums (wsV RX8 203 RX4 yX4_extreme wsX4_extreme) := goodIn_app (goodIn_of _ (by decide +kernel)) ggX8_spanSums_X4_extreme
theorem dX8_spanSums_0 : decode cX8_spanSums 0 = .ok (.aload_n 0, 1) := by decide +kernel
theorem dX8_spanSums_1 : decode cX8_spanSums 1 = .ok (.iload_n 1, 1) := by decide +kernel
theorem dX8_spanSums_2 : decode cX8_spanSums 2 = .ok (.invokevirtual 92, 3) := by decide +kernel
theorem dX8_spanSums_5 : decode cX8_spanSums 5 = .ok (.ifCond .eq 5, 3) := by decide +kernel
theorem dX8_spanSums_8 : decode cX8_spanSums 8 = .ok (.iconst (-1), 1) := by decide +kernel
theorem dX8_spanSums_9 : decode cX8_spanSums 9 = .ok (.ireturn, 1) := by decide +kernel
theorem dX8_spanSums_10 : decode cX8_spanSums 10 = .ok (.aload_n 0, 1) := by decide +kernel
theorem dX8_spanSums_11 : decode cX8_spanSums 11 = .ok (.getfield 53, 3) := by decide +kernel
theorem dX8_spanSums_14 : decode cX8_spanSums 14 = .ok (.iload_n 1, 1) := by decide +kernel
theorem dX8_spanSums_15 : decode cX8_spanSums 15 = .ok (.iload_n 2, 1) := by decide +kernel
theorem dX8_spanSums_16 : decode cX8_spanSums 16 = .ok (.invokevirtual 203, 3) := by decide +kernel
theorem dX8_spanSums_19 : decode cX8_spanSums 19 = .ok (.ireturn, 1) := by decide +kernel
set_option maxRecDepth 20000 in
theorem ggX8_carry_X8_noSlot : GoodIn wsX8_carry wsX8_noSlot := goodIn_r _ [6] (by decide +kernel) (by decide +kernel)
set_option maxRecDepth 20000 in
theorem gX8_carry_X8_noSlot : GoodIn wsX8_carry (va_wsS RX8 88 yX8_noSlot wsX8_noSlot) := goodIn_app (goodIn_of _ (by decide +kernel)) ggX8_carry_X8_noSlot
set_option maxRecDepth 20000 in
theorem ggX8_carry_X0_leastSteps : GoodIn wsX8_carry wsX0_leastSteps := goodIn_r _ [11, 12, 13, 14, 15, 16, 17, 18, 19, 20, 21, 22, 23, 24, 25, 26, 27, 28, 29, 30, 31, 32, 33, 34, 35, 36, 37, 10, 38, 39, 40, 41, 42, 43, 44, 45, 46, 47, 48, 49, 50, 51, 52, 53, 54, 55, 56, 57, 58, 59, 60, 61, 62, 63, 64, 65, 66, 67, 68, 69, 70, 71, 72, 73, 82, 83, 84, 85, 86, 87, 88, 89, 90, 91, 92] (by decide +kernel) (by decide +kernel)
set_option maxRecDepth 20000 in
theorem gX8_carry_X0_leastSteps : GoodIn wsX8_carry (wsV RX8 204 RX0 yX0_leastSteps wsX0_leastSteps) := goodIn_app (goodIn_of _ (by decide +kernel)) ggX8_carry_X0_leastSteps
theorem dX8_carry_0 : decode cX8_carry 0 = .ok (.iload_n 1, 1) := by decide +kernel
theorem dX8_carry_1 : decode cX8_carry 1 = .ok (.invokestatic 88, 3) := by decide +kernel
theorem dX8_carry_4 : decode cX8_carry 4 = .ok (.ifCond .ne 10, 3) := by decide +kernel
theorem dX8_carry_7 : decode cX8_carry 7 = .ok (.iload_n 2, 1) := by decide +kernel
theorem dX8_carry_8 : decode cX8_carry 8 = .ok (.invokestatic 88, 3) := by decide +kernel
theorem dX8_carry_11 : decode cX8_carry 11 = .ok (.ifCond .eq 5, 3) := by decide +kernel
theorem dX8_carry_14 : decode cX8_carry 14 = .ok (.iconst (-1), 1) := by decide +kernel
theorem dX8_carry_15 : decode cX8_carry 15 = .ok (.ireturn, 1) := by decide +kernel
theorem dX8_carry_16 : decode cX8_carry 16 = .ok (.aload_n 0, 1) := by decide +kernel
theorem dX8_carry_17 : decode cX8_carry 17 = .ok (.getfield 60, 3) := by decide +kernel
theorem dX8_carry_20 : decode cX8_carry 20 = .ok (.aload_n 0, 1) := by decide +kernel
theorem dX8_carry_21 : decode cX8_carry 21 = .ok (.getfield 20, 3) := by decide +kernel
theorem dX8_carry_24 : decode cX8_carry 24 = .ok (.iload_n 1, 1) := by decide +kernel
theorem dX8_carry_25 : decode cX8_carry 25 = .ok (.aaload, 1) := by decide +kernel
theorem dX8_carry_26 : decode cX8_carry 26 = .ok (.aload_n 0, 1) := by decide +kernel
theorem dX8_carry_27 : decode cX8_carry 27 = .ok (.getfield 20, 3) := by decide +kernel
theorem dX8_carry_30 : decode cX8_carry 30 = .ok (.iload_n 2, 1) := by decide +kernel
theorem dX8_carry_31 : decode cX8_carry 31 = .ok (.aaload, 1) := by decide +kernel
theorem dX8_carry_32 : decode cX8_carry 32 = .ok (.invokevirtual 204, 3) := by decide +kernel
theorem dX8_carry_35 : decode cX8_carry 35 = .ok (.ireturn, 1) := by decide +kernel
set_option maxRecDepth 20000 in
theorem ggX8_turn_X8_noSlot : GoodIn wsX8_turn wsX8_noSlot := goodIn_r _ [6] (by decide +kernel) (by decide +kernel)
set_option maxRecDepth 20000 in
theorem gX8_turn_X8_noSlot : GoodIn wsX8_turn (va_wsS RX8 88 yX8_noSlot wsX8_noSlot) := goodIn_app (goodIn_of _ (by decide +kernel)) ggX8_turn_X8_noSlot
set_option maxRecDepth 20000 in
theorem ggX8_turn_X6_keepsGround : GoodIn wsX8_turn wsX6_keepsGround := goodIn_r _ [11, 12, 13, 14, 15, 16, 17, 18, 19, 64, 65, 66, 67, 68, 69, 70, 71] (by decide +kernel) (by decide +kernel)
set_option maxRecDepth 20000 in
theorem gX8_turn_X6_keepsGround : GoodIn wsX8_turn (wsV RX8 207 RX6 yX6_keepsGround wsX6_keepsGround) := goodIn_app (goodIn_of _ (by decide +kernel)) ggX8_turn_X6_keepsGround
set_option maxRecDepth 20000 in
theorem ggX8_turn_X6_apply : GoodIn wsX8_turn wsX6_apply := goodIn_r _ [23, 24, 12, 25, 26, 27, 10, 28, 29, 30, 31, 16, 32, 18, 19, 33, 34, 35, 36, 13, 14, 15, 17, 37, 38, 39, 40, 41, 42, 43, 44, 45, 46, 47, 48, 49, 50, 51, 52, 53, 54, 55, 64, 65, 66, 67, 68, 69, 70, 71] (by decide +kernel) (by decide +kernel)
set_option maxRecDepth 20000 in
theorem gX8_turn_X6_apply : GoodIn wsX8_turn (wsV RX8 210 RX6 yX6_apply wsX6_apply) := goodIn_app (goodIn_of _ (by decide +kernel)) ggX8_turn_X6_apply
theorem dX8_turn_0 : decode cX8_turn 0 = .ok (.iload_n 1, 1) := by decide +kernel
theorem dX8_turn_1 : decode cX8_turn 1 = .ok (.invokestatic 88, 3) := by decide +kernel
theorem dX8_turn_4 : decode cX8_turn 4 = .ok (.ifCond .eq 5, 3) := by decide +kernel
theorem dX8_turn_7 : decode cX8_turn 7 = .ok (.iconst (-1), 1) := by decide +kernel
theorem dX8_turn_8 : decode cX8_turn 8 = .ok (.ireturn, 1) := by decide +kernel
theorem dX8_turn_9 : decode cX8_turn 9 = .ok (.iload_n 2, 1) := by decide +kernel
theorem dX8_turn_10 : decode cX8_turn 10 = .ok (.ifCond .lt 9, 3) := by decide +kernel
theorem dX8_turn_13 : decode cX8_turn 13 = .ok (.iload_n 2, 1) := by decide +kernel
theorem dX8_turn_14 : decode cX8_turn 14 = .ok (.bipush 8, 2) := by decide +kernel
theorem dX8_turn_16 : decode cX8_turn 16 = .ok (.if_icmp .lt 6, 3) := by decide +kernel
theorem dX8_turn_19 : decode cX8_turn 19 = .ok (.bipush (-2), 2) := by decide +kernel
theorem dX8_turn_21 : decode cX8_turn 21 = .ok (.ireturn, 1) := by decide +kernel
theorem dX8_turn_22 : decode cX8_turn 22 = .ok (.aload_n 0, 1) := by decide +kernel
theorem dX8_turn_23 : decode cX8_turn 23 = .ok (.getfield 67, 3) := by decide +kernel
theorem dX8_turn_26 : decode cX8_turn 26 = .ok (.iload_n 2, 1) := by decide +kernel
theorem dX8_turn_27 : decode cX8_turn 27 = .ok (.invokevirtual 207, 3) := by decide +kernel
theorem dX8_turn_30 : decode cX8_turn 30 = .ok (.ifCond .ne 6, 3) := by decide +kernel
theorem dX8_turn_33 : decode cX8_turn 33 = .ok (.bipush (-3), 2) := by decide +kernel
theorem dX8_turn_35 : decode cX8_turn 35 = .ok (.ireturn, 1) := by decide +kernel
theorem dX8_turn_36 : decode cX8_turn 36 = .ok (.aload_n 0, 1) := by decide +kernel
theorem dX8_turn_37 : decode cX8_turn 37 = .ok (.getfield 67, 3) := by decide +kernel
theorem dX8_turn_40 : decode cX8_turn 40 = .ok (.aload_n 0, 1) := by decide +kernel
theorem dX8_turn_41 : decode cX8_turn 41 = .ok (.getfield 20, 3) := by decide +kernel
theorem dX8_turn_44 : decode cX8_turn 44 = .ok (.iload_n 1, 1) := by decide +kernel
theorem dX8_turn_45 : decode cX8_turn 45 = .ok (.aaload, 1) := by decide +kernel
theorem dX8_turn_46 : decode cX8_turn 46 = .ok (.iload_n 2, 1) := by decide +kernel
theorem dX8_turn_47 : decode cX8_turn 47 = .ok (.invokevirtual 210, 3) := by decide +kernel
theorem dX8_turn_50 : decode cX8_turn 50 = .ok (.ireturn, 1) := by decide +kernel
set_option maxRecDepth 20000 in
theorem ggX8_alike_X8_noSlot : GoodIn wsX8_alike wsX8_noSlot := goodIn_r _ [6] (by decide +kernel) (by decide +kernel)
set_option maxRecDepth 20000 in
theorem gX8_alike_X8_noSlot : GoodIn wsX8_alike (va_wsS RX8 88 yX8_noSlot wsX8_noSlot) := goodIn_app (goodIn_of _ (by decide +kernel)) ggX8_alike_X8_noSlot
set_option maxRecDepth 20000 in
theorem ggX8_alike_X6_turnsBetween : GoodIn wsX8_alike wsX6_turnsBetween := goodIn_r _ [11, 12, 13, 14, 15, 16, 10, 17, 18, 19, 20, 21, 22, 23, 24, 25, 26, 27, 28, 29, 30, 31, 32, 33, 34, 35, 36, 37, 38, 39, 40, 41, 42, 43, 44, 45, 46, 47, 48, 49, 50, 51, 52, 53, 54, 55, 64, 65, 66, 67, 68, 69, 70, 71] (by decide +kernel) (by decide +kernel)
set_option maxRecDepth 20000 in
theorem gX8_alike_X6_turnsBetween : GoodIn wsX8_alike (wsV RX8 213 RX6 yX6_turnsBetween wsX6_turnsBetween) := goodIn_app (goodIn_of _ (by decide +kernel)) ggX8_alike_X6_turnsBetween
theorem dX8_alike_0 : decode cX8_alike 0 = .ok (.iload_n 1, 1) := by decide +kernel
theorem dX8_alike_1 : decode cX8_alike 1 = .ok (.invokestatic 88, 3) := by decide +kernel
theorem dX8_alike_4 : decode cX8_alike 4 = .ok (.ifCond .ne 10, 3) := by decide +kernel
theorem dX8_alike_7 : decode cX8_alike 7 = .ok (.iload_n 2, 1) := by decide +kernel
theorem dX8_alike_8 : decode cX8_alike 8 = .ok (.invokestatic 88, 3) := by decide +kernel
theorem dX8_alike_11 : decode cX8_alike 11 = .ok (.ifCond .eq 5, 3) := by decide +kernel
theorem dX8_alike_14 : decode cX8_alike 14 = .ok (.iconst (-1), 1) := by decide +kernel
theorem dX8_alike_15 : decode cX8_alike 15 = .ok (.ireturn, 1) := by decide +kernel
theorem dX8_alike_16 : decode cX8_alike 16 = .ok (.aload_n 0, 1) := by decide +kernel
theorem dX8_alike_17 : decode cX8_alike 17 = .ok (.getfield 67, 3) := by decide +kernel
theorem dX8_alike_20 : decode cX8_alike 20 = .ok (.aload_n 0, 1) := by decide +kernel
theorem dX8_alike_21 : decode cX8_alike 21 = .ok (.getfield 20, 3) := by decide +kernel
theorem dX8_alike_24 : decode cX8_alike 24 = .ok (.iload_n 1, 1) := by decide +kernel
theorem dX8_alike_25 : decode cX8_alike 25 = .ok (.aaload, 1) := by decide +kernel
theorem dX8_alike_26 : decode cX8_alike 26 = .ok (.aload_n 0, 1) := by decide +kernel
theorem dX8_alike_27 : decode cX8_alike 27 = .ok (.getfield 20, 3) := by decide +kernel
theorem dX8_alike_30 : decode cX8_alike 30 = .ok (.iload_n 2, 1) := by decide +kernel
theorem dX8_alike_31 : decode cX8_alike 31 = .ok (.aaload, 1) := by decide +kernel
theorem dX8_alike_32 : decode cX8_alike 32 = .ok (.invokevirtual 213, 3) := by decide +kernel
theorem dX8_alike_35 : decode cX8_alike 35 = .ok (.ifCond .le 7, 3) := by decide +kernel
theorem dX8_alike_38 : decode cX8_alike 38 = .ok (.iconst 1, 1) := by decide +kernel
theorem dX8_alike_39 : decode cX8_alike 39 = .ok (.goto 4, 3) := by decide +kernel
theorem dX8_alike_42 : decode cX8_alike 42 = .ok (.iconst 0, 1) := by decide +kernel
theorem dX8_alike_43 : decode cX8_alike 43 = .ok (.ireturn, 1) := by decide +kernel
set_option maxRecDepth 20000 in
theorem ggX8_same_X8_noSlot : GoodIn wsX8_same wsX8_noSlot := goodIn_r _ [6] (by decide +kernel) (by decide +kernel)
set_option maxRecDepth 20000 in
theorem gX8_same_X8_noSlot : GoodIn wsX8_same (va_wsS RX8 88 yX8_noSlot wsX8_noSlot) := goodIn_app (goodIn_of _ (by decide +kernel)) ggX8_same_X8_noSlot
set_option maxRecDepth 20000 in
theorem ggX8_same_X6_turnsBetween : GoodIn wsX8_same wsX6_turnsBetween := goodIn_r _ [11, 12, 13, 14, 15, 16, 10, 17, 18, 19, 20, 21, 22, 23, 24, 25, 26, 27, 28, 29, 30, 31, 32, 33, 34, 35, 36, 37, 38, 39, 40, 41, 42, 43, 44, 45, 46, 47, 48, 49, 50, 51, 52, 53, 54, 55, 64, 65, 66, 67, 68, 69, 70, 71] (by decide +kernel) (by decide +kernel)
set_option maxRecDepth 20000 in
theorem gX8_same_X6_turnsBetween : GoodIn wsX8_same (wsV RX8 213 RX6 yX6_turnsBetween wsX6_turnsBetween) := goodIn_app (goodIn_of _ (by decide +kernel)) ggX8_same_X6_turnsBetween
theorem dX8_same_0 : decode cX8_same 0 = .ok (.iload_n 1, 1) := by decide +kernel
theorem dX8_same_1 : decode cX8_same 1 = .ok (.invokestatic 88, 3) := by decide +kernel
theorem dX8_same_4 : decode cX8_same 4 = .ok (.ifCond .eq 5, 3) := by decide +kernel
theorem dX8_same_7 : decode cX8_same 7 = .ok (.iconst (-1), 1) := by decide +kernel
theorem dX8_same_8 : decode cX8_same 8 = .ok (.ireturn, 1) := by decide +kernel
theorem dX8_same_9 : decode cX8_same 9 = .ok (.aload_n 0, 1) := by decide +kernel
theorem dX8_same_10 : decode cX8_same 10 = .ok (.getfield 67, 3) := by decide +kernel
theorem dX8_same_13 : decode cX8_same 13 = .ok (.aload_n 0, 1) := by decide +kernel
theorem dX8_same_14 : decode cX8_same 14 = .ok (.getfield 20, 3) := by decide +kernel
theorem dX8_same_17 : decode cX8_same 17 = .ok (.iload_n 1, 1) := by decide +kernel
theorem dX8_same_18 : decode cX8_same 18 = .ok (.aaload, 1) := by decide +kernel
theorem dX8_same_19 : decode cX8_same 19 = .ok (.aload_n 0, 1) := by decide +kernel
theorem dX8_same_20 : decode cX8_same 20 = .ok (.getfield 20, 3) := by decide +kernel
theorem dX8_same_23 : decode cX8_same 23 = .ok (.iload_n 1, 1) := by decide +kernel
theorem dX8_same_24 : decode cX8_same 24 = .ok (.aaload, 1) := by decide +kernel
theorem dX8_same_25 : decode cX8_same 25 = .ok (.invokevirtual 213, 3) := by decide +kernel
theorem dX8_same_28 : decode cX8_same 28 = .ok (.ireturn, 1) := by decide +kernel
set_option maxRecDepth 20000 in
theorem ggX8_least_X8_noSlot : GoodIn wsX8_least wsX8_noSlot := goodIn_r _ [6] (by decide +kernel) (by decide +kernel)
set_option maxRecDepth 20000 in
theorem gX8_least_X8_noSlot : GoodIn wsX8_least (va_wsS RX8 88 yX8_noSlot wsX8_noSlot) := goodIn_app (goodIn_of _ (by decide +kernel)) ggX8_least_X8_noSlot
set_option maxRecDepth 20000 in
theorem ggX8_least_X6_toFirst : GoodIn wsX8_least wsX6_toFirst := goodIn_r _ [11, 12, 13, 14, 15, 16, 17, 18, 19, 20, 21, 22, 23, 24, 25, 26, 27, 28, 10, 29, 30, 31, 32, 33, 34, 35, 36, 37, 38, 39, 40, 41, 42, 43, 44, 45, 46, 47, 48, 49, 50, 51, 52, 53, 54, 55, 56, 57, 58, 59, 60, 73, 74, 75, 76, 77, 78, 79, 80] (by decide +kernel) (by decide +kernel)
set_option maxRecDepth 20000 in
theorem gX8_least_X6_toFirst : GoodIn wsX8_least (wsV RX8 216 RX6 yX6_toFirst wsX6_toFirst) := goodIn_app (goodIn_of _ (by decide +kernel)) ggX8_least_X6_toFirst
set_option maxRecDepth 20000 in
theorem ggX8_least_X6_apply : GoodIn wsX8_least wsX6_apply := goodIn_r _ [64, 14, 12, 34, 35, 36, 10, 37, 38, 21, 22, 18, 23, 24, 25, 39, 40, 41, 42, 30, 31, 32, 33, 43, 44, 45, 46, 47, 48, 49, 50, 51, 52, 53, 54, 55, 56, 15, 16, 17, 19, 20, 73, 74, 75, 76, 77, 78, 79, 80] (by decide +kernel) (by decide +kernel)
set_option maxRecDepth 20000 in
theorem gX8_least_X6_apply : GoodIn wsX8_least (wsV RX8 210 RX6 yX6_apply wsX6_apply) := goodIn_app (goodIn_of _ (by decide +kernel)) ggX8_least_X6_apply
theorem dX8_least_0 : decode cX8_least 0 = .ok (.iload_n 1, 1) := by decide +kernel
theorem dX8_least_1 : decode cX8_least 1 = .ok (.invokestatic 88, 3) := by decide +kernel
theorem dX8_least_4 : decode cX8_least 4 = .ok (.ifCond .eq 5, 3) := by decide +kernel
theorem dX8_least_7 : decode cX8_least 7 = .ok (.iconst (-1), 1) := by decide +kernel
theorem dX8_least_8 : decode cX8_least 8 = .ok (.ireturn, 1) := by decide +kernel
theorem dX8_least_9 : decode cX8_least 9 = .ok (.aload_n 0, 1) := by decide +kernel
theorem dX8_least_10 : decode cX8_least 10 = .ok (.getfield 67, 3) := by decide +kernel
theorem dX8_least_13 : decode cX8_least 13 = .ok (.aload_n 0, 1) := by decide +kernel
theorem dX8_least_14 : decode cX8_least 14 = .ok (.getfield 20, 3) := by decide +kernel
theorem dX8_least_17 : decode cX8_least 17 = .ok (.iload_n 1, 1) := by decide +kernel
theorem dX8_least_18 : decode cX8_least 18 = .ok (.aaload, 1) := by decide +kernel
theorem dX8_least_19 : decode cX8_least 19 = .ok (.invokevirtual 216, 3) := by decide +kernel
theorem dX8_least_22 : decode cX8_least 22 = .ok (.istore_n 2, 1) := by decide +kernel
theorem dX8_least_23 : decode cX8_least 23 = .ok (.aload_n 0, 1) := by decide +kernel
theorem dX8_least_24 : decode cX8_least 24 = .ok (.getfield 67, 3) := by decide +kernel
theorem dX8_least_27 : decode cX8_least 27 = .ok (.aload_n 0, 1) := by decide +kernel
theorem dX8_least_28 : decode cX8_least 28 = .ok (.getfield 20, 3) := by decide +kernel
theorem dX8_least_31 : decode cX8_least 31 = .ok (.iload_n 1, 1) := by decide +kernel
theorem dX8_least_32 : decode cX8_least 32 = .ok (.aaload, 1) := by decide +kernel
theorem dX8_least_33 : decode cX8_least 33 = .ok (.iload_n 2, 1) := by decide +kernel
theorem dX8_least_34 : decode cX8_least 34 = .ok (.invokevirtual 210, 3) := by decide +kernel
theorem dX8_least_37 : decode cX8_least 37 = .ok (.pop, 1) := by decide +kernel
theorem dX8_least_38 : decode cX8_least 38 = .ok (.iload_n 2, 1) := by decide +kernel
theorem dX8_least_39 : decode cX8_least 39 = .ok (.ireturn, 1) := by decide +kernel
set_option maxRecDepth 20000 in
theorem ggX8_about_X2_lines : GoodIn wsX8_about wsX2_lines := goodIn_r _ [7, 8, 9, 51, 52, 53, 54, 55] (by decide +kernel) (by decide +kernel)
set_option maxRecDepth 20000 in
theorem gX8_about_X2_lines : GoodIn wsX8_about (wsV RX8 219 RX2 yX2_lines wsX2_lines) := goodIn_app (goodIn_of _ (by decide +kernel)) ggX8_about_X2_lines
set_option maxRecDepth 20000 in
theorem ggX8_about_X5_linesTold : GoodIn wsX8_about wsX5_linesTold := goodIn_r _ [14, 15, 16, 17, 13, 18, 19, 20, 4, 5, 6, 7, 8, 9, 21, 22, 23, 24, 25, 26, 27, 28, 29, 30, 31, 32, 56, 57, 58, 59, 60, 51, 52, 53, 54, 55, 61, 62] (by decide +kernel) (by decide +kernel)
set_option maxRecDepth 20000 in
theorem gX8_about_X5_linesTold : GoodIn wsX8_about (wsV RX8 223 RX5 yX5_linesTold wsX5_linesTold) := goodIn_app (goodIn_of _ (by decide +kernel)) ggX8_about_X5_linesTold
set_option maxRecDepth 20000 in
theorem ggX8_about_X5_topsTold : GoodIn wsX8_about wsX5_topsTold := goodIn_r _ [36, 19, 37, 38, 39, 40, 6, 41, 8, 9, 56, 57, 58, 59, 60, 51, 52, 53, 54, 55] (by decide +kernel) (by decide +kernel)
set_option maxRecDepth 20000 in
theorem gX8_about_X5_topsTold : GoodIn wsX8_about (wsV RX8 226 RX5 yX5_topsTold wsX5_topsTold) := goodIn_app (goodIn_of _ (by decide +kernel)) ggX8_about_X5_topsTold
set_option maxRecDepth 20000 in
theorem ggX8_about_X2_cells : GoodIn wsX8_about wsX2_cells := goodIn_r _ [41, 8, 9, 51, 52, 53, 54, 55] (by decide +kernel) (by decide +kernel)
set_option maxRecDepth 20000 in
theorem gX8_about_X2_cells : GoodIn wsX8_about (wsV RX8 84 RX2 yX2_cells wsX2_cells) := goodIn_app (goodIn_of _ (by decide +kernel)) ggX8_about_X2_cells
theorem dX8_about_0 : decode cX8_about 0 = .ok (.iload_n 1, 1) := by decide +kernel
theorem dX8_about_1 : decode cX8_about 1 = .ok (.tableswitch 77 0 4 #[35, 44, 53, 61, 69], 35) := by decide +kernel
theorem dX8_about_36 : decode cX8_about 36 = .ok (.aload_n 0, 1) := by decide +kernel
theorem dX8_about_37 : decode cX8_about 37 = .ok (.getfield 14, 3) := by decide +kernel
theorem dX8_about_40 : decode cX8_about 40 = .ok (.iconst 1, 1) := by decide +kernel
theorem dX8_about_41 : decode cX8_about 41 = .ok (.invokevirtual 219, 3) := by decide +kernel
theorem dX8_about_44 : decode cX8_about 44 = .ok (.ireturn, 1) := by decide +kernel
theorem dX8_about_45 : decode cX8_about 45 = .ok (.aload_n 0, 1) := by decide +kernel
theorem dX8_about_46 : decode cX8_about 46 = .ok (.getfield 14, 3) := by decide +kernel
theorem dX8_about_49 : decode cX8_about 49 = .ok (.iconst 0, 1) := by decide +kernel
theorem dX8_about_50 : decode cX8_about 50 = .ok (.invokevirtual 219, 3) := by decide +kernel
theorem dX8_about_53 : decode cX8_about 53 = .ok (.ireturn, 1) := by decide +kernel
theorem dX8_about_54 : decode cX8_about 54 = .ok (.aload_n 0, 1) := by decide +kernel
theorem dX8_about_55 : decode cX8_about 55 = .ok (.getfield 37, 3) := by decide +kernel
theorem dX8_about_58 : decode cX8_about 58 = .ok (.invokevirtual 223, 3) := by decide +kernel
theorem dX8_about_61 : decode cX8_about 61 = .ok (.ireturn, 1) := by decide +kernel
theorem dX8_about_62 : decode cX8_about 62 = .ok (.aload_n 0, 1) := by decide +kernel
theorem dX8_about_63 : decode cX8_about 63 = .ok (.getfield 37, 3) := by decide +kernel
theorem dX8_about_66 : decode cX8_about 66 = .ok (.invokevirtual 226, 3) := by decide +kernel
theorem dX8_about_69 : decode cX8_about 69 = .ok (.ireturn, 1) := by decide +kernel
theorem dX8_about_70 : decode cX8_about 70 = .ok (.aload_n 0, 1) := by decide +kernel
theorem dX8_about_71 : decode cX8_about 71 = .ok (.getfield 14, 3) := by decide +kernel
theorem dX8_about_74 : decode cX8_about 74 = .ok (.invokevirtual 84, 3) := by decide +kernel
theorem dX8_about_77 : decode cX8_about 77 = .ok (.ireturn, 1) := by decide +kernel
theorem dX8_about_78 : decode cX8_about 78 = .ok (.bipush (-2), 2) := by decide +kernel
theorem dX8_about_80 : decode cX8_about 80 = .ok (.ireturn, 1) := by decide +kernel
set_option maxRecDepth 20000 in
theorem ggX8_fitted_X1_refresh : GoodIn wsX8_fitted wsX1_refresh := goodIn_r _ [6, 7, 8, 9, 10, 11, 12, 13, 14, 15, 16, 17, 5, 18, 19, 20, 21, 22, 23, 24, 25, 26, 27, 28, 29, 30, 31, 32, 33, 34, 35, 36, 37, 38, 39, 40, 41, 42, 43, 44, 45, 46, 47, 48, 49, 50, 51, 52, 53, 54, 55, 56, 57, 58, 59, 60, 61, 62, 63, 64, 65, 66, 67, 68, 69, 70, 71, 72, 73, 74, 75, 76, 77, 78, 79, 80, 81, 82, 83, 84, 85, 86, 87, 88, 89, 90, 91, 92, 93, 94, 95, 96, 97, 98, 99, 100, 101, 102, 103, 104, 105, 106, 107, 108, 109, 110, 111, 112, 113, 114, 115, 116, 117, 118, 119, 120, 121, 130, 131, 132, 133, 134, 135, 136, 137, 138, 139, 140, 141, 142, 143, 144, 145, 146, 147, 148, 149, 150, 151] (by decide +kernel) (by decide +kernel)
set_option maxRecDepth 20000 in
theorem gX8_fitted_X1_refresh : GoodIn wsX8_fitted (wsV RX8 229 RX1 yX1_refresh wsX1_refresh) := goodIn_app (goodIn_of _ (by decide +kernel)) ggX8_fitted_X1_refresh
theorem dX8_fitted_0 : decode cX8_fitted 0 = .ok (.aload_n 0, 1) := by decide +kernel
theorem dX8_fitted_1 : decode cX8_fitted 1 = .ok (.getfield 46, 3) := by decide +kernel
theorem dX8_fitted_4 : decode cX8_fitted 4 = .ok (.invokevirtual 229, 3) := by decide +kernel
theorem dX8_fitted_7 : decode cX8_fitted 7 = .ok (.aload_n 0, 1) := by decide +kernel
theorem dX8_fitted_8 : decode cX8_fitted 8 = .ok (.getfield 46, 3) := by decide +kernel
theorem dX8_fitted_11 : decode cX8_fitted 11 = .ok (.areturn, 1) := by decide +kernel
theorem dX8_noSlot_0 : decode cX8_noSlot 0 = .ok (.iload_n 0, 1) := by decide +kernel
theorem dX8_noSlot_1 : decode cX8_noSlot 1 = .ok (.ifCond .lt 8, 3) := by decide +kernel
theorem dX8_noSlot_4 : decode cX8_noSlot 4 = .ok (.iload_n 0, 1) := by decide +kernel
theorem dX8_noSlot_5 : decode cX8_noSlot 5 = .ok (.iconst 4, 1) := by decide +kernel
theorem dX8_noSlot_6 : decode cX8_noSlot 6 = .ok (.if_icmp .lt 7, 3) := by decide +kernel
theorem dX8_noSlot_9 : decode cX8_noSlot 9 = .ok (.iconst 1, 1) := by decide +kernel
theorem dX8_noSlot_10 : decode cX8_noSlot 10 = .ok (.goto 4, 3) := by decide +kernel
theorem dX8_noSlot_13 : decode cX8_noSlot 13 = .ok (.iconst 0, 1) := by decide +kernel
theorem dX8_noSlot_14 : decode cX8_noSlot 14 = .ok (.ireturn, 1) := by decide +kernel
set_option maxRecDepth 20000 in
theorem ggX8_noCell_X2_cells : GoodIn wsX8_noCell wsX2_cells := goodIn_r _ [6, 7, 8, 17, 18, 19, 20, 21] (by decide +kernel) (by decide +kernel)
set_option maxRecDepth 20000 in
theorem gX8_noCell_X2_cells : GoodIn wsX8_noCell (wsV RX8 84 RX2 yX2_cells wsX2_cells) := goodIn_app (goodIn_of _ (by decide +kernel)) ggX8_noCell_X2_cells
theorem dX8_noCell_0 : decode cX8_noCell 0 = .ok (.iload_n 1, 1) := by decide +kernel
theorem dX8_noCell_1 : decode cX8_noCell 1 = .ok (.ifCond .lt 14, 3) := by decide +kernel
theorem dX8_noCell_4 : decode cX8_noCell 4 = .ok (.iload_n 1, 1) := by decide +kernel
theorem dX8_noCell_5 : decode cX8_noCell 5 = .ok (.aload_n 0, 1) := by decide +kernel
theorem dX8_noCell_6 : decode cX8_noCell 6 = .ok (.getfield 14, 3) := by decide +kernel
theorem dX8_noCell_9 : decode cX8_noCell 9 = .ok (.invokevirtual 84, 3) := by decide +kernel
theorem dX8_noCell_12 : decode cX8_noCell 12 = .ok (.if_icmp .lt 7, 3) := by decide +kernel
theorem dX8_noCell_15 : decode cX8_noCell 15 = .ok (.iconst 1, 1) := by decide +kernel
theorem dX8_noCell_16 : decode cX8_noCell 16 = .ok (.goto 4, 3) := by decide +kernel
theorem dX8_noCell_19 : decode cX8_noCell 19 = .ok (.iconst 0, 1) := by decide +kernel
