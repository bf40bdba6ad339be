set_option maxRecDepth 20000 in
theorem ggX4_init_X3_init : GoodIn wsX4_init wsX3_init := goodIn_r _ [19, 20, 2, 3, 8, 21, 22, 23, 24] (by decide +kernel) (by decide +kernel)
set_option maxRecDepth 20000 in
theorem gX4_init_X3_init_n11 : GoodIn wsX4_init (wsX3_init) := ggX4_init_X3_init
theorem dX4_init_0 : decode cX4_init 0 = .ok (.aload_n 0, 1) := by decide +kernel
theorem dX4_init_1 : decode cX4_init 1 = .ok (.invokespecial 3, 3) := by decide +kernel
theorem dX4_init_4 : decode cX4_init 4 = .ok (.aload_n 0, 1) := by decide +kernel
theorem dX4_init_5 : decode cX4_init 5 = .ok (.new 9, 3) := by decide +kernel
theorem dX4_init_8 : decode cX4_init 8 = .ok (.dup, 1) := by decide +kernel
theorem dX4_init_9 : decode cX4_init 9 = .ok (.invokespecial 11, 3) := by decide +kernel
theorem dX4_init_12 : decode cX4_init 12 = .ok (.putfield 12, 3) := by decide +kernel
theorem dX4_init_15 : decode cX4_init 15 = .ok (.aload_n 0, 1) := by decide +kernel
theorem dX4_init_16 : decode cX4_init 16 = .ok (.bipush 25, 2) := by decide +kernel
theorem dX4_init_18 : decode cX4_init 18 = .ok (.newarray .int, 2) := by decide +kernel
theorem dX4_init_20 : decode cX4_init 20 = .ok (.putfield 18, 3) := by decide +kernel
theorem dX4_init_23 : decode cX4_init 23 = .ok (.aload_n 0, 1) := by decide +kernel
theorem dX4_init_24 : decode cX4_init 24 = .ok (.bipush 25, 2) := by decide +kernel
theorem dX4_init_26 : decode cX4_init 26 = .ok (.newarray .int, 2) := by decide +kernel
theorem dX4_init_28 : decode cX4_init 28 = .ok (.putfield 22, 3) := by decide +kernel
theorem dX4_init_31 : decode cX4_init 31 = .ok (.aload_n 0, 1) := by decide +kernel
theorem dX4_init_32 : decode cX4_init 32 = .ok (.bipush 25, 2) := by decide +kernel
theorem dX4_init_34 : decode cX4_init 34 = .ok (.newarray .int, 2) := by decide +kernel
theorem dX4_init_36 : decode cX4_init 36 = .ok (.putfield 25, 3) := by decide +kernel
theorem dX4_init_39 : decode cX4_init 39 = .ok (.aload_n 0, 1) := by decide +kernel
theorem dX4_init_40 : decode cX4_init 40 = .ok (.bipush 10, 2) := by decide +kernel
theorem dX4_init_42 : decode cX4_init 42 = .ok (.newarray .int, 2) := by decide +kernel
theorem dX4_init_44 : decode cX4_init 44 = .ok (.putfield 28, 3) := by decide +kernel
theorem dX4_init_47 : decode cX4_init 47 = .ok (.aload_n 0, 1) := by decide +kernel
theorem dX4_init_48 : decode cX4_init 48 = .ok (.bipush 10, 2) := by decide +kernel
theorem dX4_init_50 : decode cX4_init 50 = .ok (.newarray .int, 2) := by decide +kernel
theorem dX4_init_52 : decode cX4_init 52 = .ok (.putfield 31, 3) := by decide +kernel
theorem dX4_init_55 : decode cX4_init 55 = .ok (.aload_n 0, 1) := by decide +kernel
theorem dX4_init_56 : decode cX4_init 56 = .ok (.bipush 10, 2) := by decide +kernel
theorem dX4_init_58 : decode cX4_init 58 = .ok (.newarray .int, 2) := by decide +kernel
theorem dX4_init_60 : decode cX4_init 60 = .ok (.putfield 34, 3) := by decide +kernel
theorem dX4_init_63 : decode cX4_init 63 = .ok (.aload_n 0, 1) := by decide +kernel
theorem dX4_init_64 : decode cX4_init 64 = .ok (.bipush 10, 2) := by decide +kernel
theorem dX4_init_66 : decode cX4_init 66 = .ok (.newarray .int, 2) := by decide +kernel
theorem dX4_init_68 : decode cX4_init 68 = .ok (.putfield 37, 3) := by decide +kernel
theorem dX4_init_71 : decode cX4_init 71 = .ok (.aload_n 0, 1) := by decide +kernel
theorem dX4_init_72 : decode cX4_init 72 = .ok (.aload_n 1, 1) := by decide +kernel
theorem dX4_init_73 : decode cX4_init 73 = .ok (.putfield 40, 3) := by decide +kernel
theorem dX4_init_76 : decode cX4_init 76 = .ok (.aload_n 0, 1) := by decide +kernel
theorem dX4_init_77 : decode cX4_init 77 = .ok (.aload_n 2, 1) := by decide +kernel
theorem dX4_init_78 : decode cX4_init 78 = .ok (.putfield 44, 3) := by decide +kernel
theorem dX4_init_81 : decode cX4_init 81 = .ok (.return_, 1) := by decide +kernel
set_option maxRecDepth 20000 in
theorem ggX4_forget_X3_putAll : GoodIn wsX4_forget wsX3_putAll := goodIn_r _ [6, 7, 8, 9, 10, 11, 12, 23, 24] (by decide +kernel) (by decide +kernel)
set_option maxRecDepth 20000 in
theorem gX4_forget_X3_putAll : GoodIn wsX4_forget (wsV RX4 48 RX3 yX3_putAll wsX3_putAll) := goodIn_app (goodIn_of _ (by decide +kernel)) ggX4_forget_X3_putAll
theorem dX4_forget_0 : decode cX4_forget 0 = .ok (.aload_n 0, 1) := by decide +kernel
theorem dX4_forget_1 : decode cX4_forget 1 = .ok (.getfield 12, 3) := by decide +kernel
theorem dX4_forget_4 : decode cX4_forget 4 = .ok (.iconst 0, 1) := by decide +kernel
theorem dX4_forget_5 : decode cX4_forget 5 = .ok (.invokevirtual 48, 3) := by decide +kernel
theorem dX4_forget_8 : decode cX4_forget 8 = .ok (.return_, 1) := by decide +kernel
set_option maxRecDepth 20000 in
theorem ggX4_put_X3_put : GoodIn wsX4_put wsX3_put := goodIn_r _ [6, 7, 8, 19, 20] (by decide +kernel) (by decide +kernel)
set_option maxRecDepth 20000 in
theorem gX4_put_X3_put : GoodIn wsX4_put (wsV RX4 52 RX3 yX3_put wsX3_put) := goodIn_app (goodIn_of _ (by decide +kernel)) ggX4_put_X3_put
theorem dX4_put_0 : decode cX4_put 0 = .ok (.aload_n 0, 1) := by decide +kernel
theorem dX4_put_1 : decode cX4_put 1 = .ok (.getfield 12, 3) := by decide +kernel
theorem dX4_put_4 : decode cX4_put 4 = .ok (.iload_n 1, 1) := by decide +kernel
theorem dX4_put_5 : decode cX4_put 5 = .ok (.iload_n 2, 1) := by decide +kernel
theorem dX4_put_6 : decode cX4_put 6 = .ok (.iload_n 3, 1) := by decide +kernel
theorem dX4_put_7 : decode cX4_put 7 = .ok (.invokevirtual 52, 3) := by decide +kernel
theorem dX4_put_10 : decode cX4_put 10 = .ok (.ireturn, 1) := by decide +kernel
set_option maxRecDepth 20000 in
theorem ggX4_takeFrom_X4_takeLines : GoodIn wsX4_takeFrom wsX4_takeLines := goodIn_r _ [5, 6, 7, 8, 9, 10, 11, 12, 13, 14, 15, 16, 17, 18, 19, 20, 21, 22, 23, 24, 25, 26, 27, 28, 4, 29, 30, 31, 32, 33, 34, 35, 36, 37, 38, 39, 40, 41, 42, 43, 44, 45, 46, 47, 48, 49, 50, 51, 52, 53, 54] (by decide +kernel) (by decide +kernel)
set_option maxRecDepth 20000 in
theorem gX4_takeFrom_X4_takeLines : GoodIn wsX4_takeFrom (wsV RX4 56 RX4 yX4_takeLines wsX4_takeLines) := goodIn_app (goodIn_of _ (by decide +kernel)) ggX4_takeFrom_X4_takeLines
theorem dX4_takeFrom_0 : decode cX4_takeFrom 0 = .ok (.aload_n 0, 1) := by decide +kernel
theorem dX4_takeFrom_1 : decode cX4_takeFrom 1 = .ok (.aload_n 1, 1) := by decide +kernel
theorem dX4_takeFrom_2 : decode cX4_takeFrom 2 = .ok (.iconst 1, 1) := by decide +kernel
theorem dX4_takeFrom_3 : decode cX4_takeFrom 3 = .ok (.invokevirtual 56, 3) := by decide +kernel
theorem dX4_takeFrom_6 : decode cX4_takeFrom 6 = .ok (.aload_n 0, 1) := by decide +kernel
theorem dX4_takeFrom_7 : decode cX4_takeFrom 7 = .ok (.aload_n 1, 1) := by decide +kernel
theorem dX4_takeFrom_8 : decode cX4_takeFrom 8 = .ok (.iconst 0, 1) := by decide +kernel
theorem dX4_takeFrom_9 : decode cX4_takeFrom 9 = .ok (.invokevirtual 56, 3) := by decide +kernel
theorem dX4_takeFrom_12 : decode cX4_takeFrom 12 = .ok (.return_, 1) := by decide +kernel
set_option maxRecDepth 20000 in
theorem ggX4_takeLines_X2_lines : GoodIn wsX4_takeLines wsX2_lines := goodIn_r _ [6, 7, 8, 44, 45, 46, 47, 48] (by decide +kernel) (by decide +kernel)
set_option maxRecDepth 20000 in
theorem gX4_takeLines_X2_lines : GoodIn wsX4_takeLines (wsV RX4 60 RX2 yX2_lines wsX2_lines) := goodIn_app (goodIn_of _ (by decide +kernel)) ggX4_takeLines_X2_lines
set_option maxRecDepth 20000 in
theorem ggX4_takeLines_X2_lineTotal : GoodIn wsX4_takeLines wsX2_lineTotal := goodIn_r _ [12, 13, 14, 15, 5, 16, 8, 7, 17, 18, 19, 20, 44, 45, 46, 47, 48] (by decide +kernel) (by decide +kernel)
set_option maxRecDepth 20000 in
theorem gX4_takeLines_X2_lineTotal : GoodIn wsX4_takeLines (wsV RX4 66 RX2 yX2_lineTotal wsX2_lineTotal) := goodIn_app (goodIn_of _ (by decide +kernel)) ggX4_takeLines_X2_lineTotal
set_option maxRecDepth 20000 in
theorem ggX4_takeLines_X4_put : GoodIn wsX4_takeLines wsX4_put := goodIn_r _ [25, 26, 27, 28, 29, 30, 31, 32, 33, 34, 35, 36, 37, 38, 39, 40, 41, 42, 43, 49, 50] (by decide +kernel) (by decide +kernel)
set_option maxRecDepth 20000 in
theorem gX4_takeLines_X4_put : GoodIn wsX4_takeLines (wsV RX4 70 RX4 yX4_put wsX4_put) := goodIn_app (goodIn_of _ (by decide +kernel)) ggX4_takeLines_X4_put
theorem dX4_takeLines_0 : decode cX4_takeLines 0 = .ok (.iconst 0, 1) := by decide +kernel
theorem dX4_takeLines_1 : decode cX4_takeLines 1 = .ok (.istore_n 3, 1) := by decide +kernel
theorem dX4_takeLines_2 : decode cX4_takeLines 2 = .ok (.iload_n 3, 1) := by decide +kernel
theorem dX4_takeLines_3 : decode cX4_takeLines 3 = .ok (.aload_n 0, 1) := by decide +kernel
theorem dX4_takeLines_4 : decode cX4_takeLines 4 = .ok (.getfield 40, 3) := by decide +kernel
theorem dX4_takeLines_7 : decode cX4_takeLines 7 = .ok (.iload_n 2, 1) := by decide +kernel
theorem dX4_takeLines_8 : decode cX4_takeLines 8 = .ok (.invokevirtual 60, 3) := by decide +kernel
theorem dX4_takeLines_11 : decode cX4_takeLines 11 = .ok (.if_icmp .ge 26, 3) := by decide +kernel
theorem dX4_takeLines_14 : decode cX4_takeLines 14 = .ok (.aload_n 0, 1) := by decide +kernel
theorem dX4_takeLines_15 : decode cX4_takeLines 15 = .ok (.iload_n 2, 1) := by decide +kernel
theorem dX4_takeLines_16 : decode cX4_takeLines 16 = .ok (.iload_n 3, 1) := by decide +kernel
theorem dX4_takeLines_17 : decode cX4_takeLines 17 = .ok (.aload_n 0, 1) := by decide +kernel
theorem dX4_takeLines_18 : decode cX4_takeLines 18 = .ok (.getfield 40, 3) := by decide +kernel
theorem dX4_takeLines_21 : decode cX4_takeLines 21 = .ok (.aload_n 1, 1) := by decide +kernel
theorem dX4_takeLines_22 : decode cX4_takeLines 22 = .ok (.iload_n 2, 1) := by decide +kernel
theorem dX4_takeLines_23 : decode cX4_takeLines 23 = .ok (.iload_n 3, 1) := by decide +kernel
theorem dX4_takeLines_24 : decode cX4_takeLines 24 = .ok (.invokevirtual 66, 3) := by decide +kernel
theorem dX4_takeLines_27 : decode cX4_takeLines 27 = .ok (.invokevirtual 70, 3) := by decide +kernel
theorem dX4_takeLines_30 : decode cX4_takeLines 30 = .ok (.pop, 1) := by decide +kernel
theorem dX4_takeLines_31 : decode cX4_takeLines 31 = .ok (.iinc 3 1, 3) := by decide +kernel
theorem dX4_takeLines_34 : decode cX4_takeLines 34 = .ok (.goto (-32), 3) := by decide +kernel
theorem dX4_takeLines_37 : decode cX4_takeLines 37 = .ok (.return_, 1) := by decide +kernel
set_option maxRecDepth 20000 in
theorem ggX4_noneOneMore_X4_makeOne : GoodIn wsX4_noneOneMore wsX4_makeOne := goodIn_r _ [6, 1, 7, 8, 9, 5, 10, 11, 12, 13, 14, 15, 16, 17, 18, 19, 20, 21, 22, 23, 24, 25, 26, 27, 28, 29, 30, 31, 32, 33, 34, 35, 36, 37, 38, 39, 40, 41, 42, 43, 44, 45, 46, 47, 48, 49, 50, 51, 52, 53, 54, 55, 56, 57, 58, 59, 60, 61, 62, 63, 64, 65, 66, 67, 68, 69, 70, 71, 72, 73, 74, 75, 76, 77, 78, 79, 80, 81, 82, 83, 84, 99, 100, 101, 102, 103, 104, 105, 106, 107, 108, 109, 110, 111, 112, 113, 114, 115, 116, 117, 118, 119, 120] (by decide +kernel) (by decide +kernel)
set_option maxRecDepth 20000 in
theorem gX4_noneOneMore_X4_makeOne : GoodIn wsX4_noneOneMore (wsV RX4 71 RX4 yX4_makeOne wsX4_makeOne) := goodIn_app (goodIn_of _ (by decide +kernel)) ggX4_noneOneMore_X4_makeOne
set_option maxRecDepth 20000 in
theorem ggX4_noneOneMore_X2_cells : GoodIn wsX4_noneOneMore wsX2_cells := goodIn_r _ [19, 20, 21, 109, 110, 111, 112, 113] (by decide +kernel) (by decide +kernel)
set_option maxRecDepth 20000 in
theorem gX4_noneOneMore_X2_cells : GoodIn wsX4_noneOneMore (wsV RX4 75 RX2 yX2_cells wsX2_cells) := goodIn_app (goodIn_of _ (by decide +kernel)) ggX4_noneOneMore_X2_cells
set_option maxRecDepth 20000 in
theorem ggX4_noneOneMore_X4_shift : GoodIn wsX4_noneOneMore wsX4_shift := goodIn_r _ [88, 14, 11, 13, 1, 32, 89, 90, 91, 18, 92, 93, 94, 95, 96, 97, 98, 33, 34, 35, 36, 65, 66, 67, 5, 68, 69, 70, 71, 72, 73, 74, 75, 76, 77, 78, 79, 58, 59, 60, 21, 20, 80, 62, 63, 64, 81, 82, 83, 84, 99, 100, 101, 102, 103, 104, 105, 106, 107, 108, 109, 110, 111, 112, 113] (by decide +kernel) (by decide +kernel)
set_option maxRecDepth 20000 in
theorem gX4_noneOneMore_X4_shift : GoodIn wsX4_noneOneMore (wsV RX4 79 RX4 yX4_shift wsX4_shift) := goodIn_app (goodIn_of _ (by decide +kernel)) ggX4_noneOneMore_X4_shift
theorem dX4_noneOneMore_0 : decode cX4_noneOneMore 0 = .ok (.aload_n 0, 1) := by decide +kernel
theorem dX4_noneOneMore_1 : decode cX4_noneOneMore 1 = .ok (.invokevirtual 71, 3) := by decide +kernel
theorem dX4_noneOneMore_4 : decode cX4_noneOneMore 4 = .ok (.ifCond .ne 5, 3) := by decide +kernel
theorem dX4_noneOneMore_7 : decode cX4_noneOneMore 7 = .ok (.iconst 0, 1) := by decide +kernel
theorem dX4_noneOneMore_8 : decode cX4_noneOneMore 8 = .ok (.ireturn, 1) := by decide +kernel
theorem dX4_noneOneMore_9 : decode cX4_noneOneMore 9 = .ok (.iconst 0, 1) := by decide +kernel
theorem dX4_noneOneMore_10 : decode cX4_noneOneMore 10 = .ok (.istore_n 1, 1) := by decide +kernel
theorem dX4_noneOneMore_11 : decode cX4_noneOneMore 11 = .ok (.iload_n 1, 1) := by decide +kernel
theorem dX4_noneOneMore_12 : decode cX4_noneOneMore 12 = .ok (.aload_n 0, 1) := by decide +kernel
theorem dX4_noneOneMore_13 : decode cX4_noneOneMore 13 = .ok (.getfield 40, 3) := by decide +kernel
theorem dX4_noneOneMore_16 : decode cX4_noneOneMore 16 = .ok (.invokevirtual 75, 3) := by decide +kernel
theorem dX4_noneOneMore_19 : decode cX4_noneOneMore 19 = .ok (.if_icmp .ge 20, 3) := by decide +kernel
theorem dX4_noneOneMore_22 : decode cX4_noneOneMore 22 = .ok (.aload_n 0, 1) := by decide +kernel
theorem dX4_noneOneMore_23 : decode cX4_noneOneMore 23 = .ok (.iload_n 1, 1) := by decide +kernel
theorem dX4_noneOneMore_24 : decode cX4_noneOneMore 24 = .ok (.iconst (-1), 1) := by decide +kernel
theorem dX4_noneOneMore_25 : decode cX4_noneOneMore 25 = .ok (.invokevirtual 79, 3) := by decide +kernel
theorem dX4_noneOneMore_28 : decode cX4_noneOneMore 28 = .ok (.ifCond .eq 5, 3) := by decide +kernel
theorem dX4_noneOneMore_31 : decode cX4_noneOneMore 31 = .ok (.iconst 2, 1) := by decide +kernel
theorem dX4_noneOneMore_32 : decode cX4_noneOneMore 32 = .ok (.ireturn, 1) := by decide +kernel
theorem dX4_noneOneMore_33 : decode cX4_noneOneMore 33 = .ok (.iinc 1 1, 3) := by decide +kernel
theorem dX4_noneOneMore_36 : decode cX4_noneOneMore 36 = .ok (.goto (-25), 3) := by decide +kernel
theorem dX4_noneOneMore_39 : decode cX4_noneOneMore 39 = .ok (.iconst 1, 1) := by decide +kernel
theorem dX4_noneOneMore_40 : decode cX4_noneOneMore 40 = .ok (.ireturn, 1) := by decide +kernel
set_option maxRecDepth 20000 in
theorem ggX4_fillFirst_X4_makeOne : GoodIn wsX4_fillFirst wsX4_makeOne := goodIn_r _ [9, 1, 10, 11, 12, 8, 13, 2, 14, 4, 3, 15, 16, 17, 18, 19, 20, 21, 22, 23, 24, 25, 26, 27, 28, 29, 30, 31, 32, 33, 34, 35, 36, 37, 38, 39, 40, 41, 42, 43, 44, 45, 46, 47, 48, 49, 50, 51, 52, 53, 54, 55, 56, 57, 58, 59, 60, 61, 62, 63, 64, 65, 66, 67, 68, 69, 70, 71, 72, 73, 74, 75, 76, 77, 78, 79, 80, 81, 82, 83, 84, 108, 109, 110, 111, 112, 113, 114, 115, 116, 117, 118, 119, 120, 121, 122, 123, 124, 125, 126, 127, 128, 129] (by decide +kernel) (by decide +kernel)
set_option maxRecDepth 20000 in
theorem gX4_fillFirst_X4_makeOne : GoodIn wsX4_fillFirst (wsV RX4 71 RX4 yX4_makeOne wsX4_makeOne) := goodIn_app (goodIn_of _ (by decide +kernel)) ggX4_fillFirst_X4_makeOne
set_option maxRecDepth 20000 in
theorem ggX4_fillFirst_X2_cells : GoodIn wsX4_fillFirst wsX2_cells := goodIn_r _ [19, 20, 21, 118, 119, 120, 121, 122] (by decide +kernel) (by decide +kernel)
set_option maxRecDepth 20000 in
theorem gX4_fillFirst_X2_cells : GoodIn wsX4_fillFirst (wsV RX4 75 RX2 yX2_cells wsX2_cells) := goodIn_app (goodIn_of _ (by decide +kernel)) ggX4_fillFirst_X2_cells
set_option maxRecDepth 20000 in
theorem ggX4_fillFirst_X4_shiftFar : GoodIn wsX4_fillFirst wsX4_shiftFar := goodIn_r _ [88, 89, 90, 91, 8, 92, 3, 2, 4, 1, 32, 93, 94, 95, 18, 96, 97, 98, 99, 100, 101, 102, 33, 34, 35, 36, 65, 66, 67, 68, 69, 70, 71, 72, 73, 74, 75, 76, 77, 78, 79, 58, 59, 60, 21, 20, 80, 62, 63, 64, 81, 82, 83, 84, 108, 109, 110, 111, 112, 113, 114, 115, 116, 117, 118, 119, 120, 121, 122] (by decide +kernel) (by decide +kernel)
set_option maxRecDepth 20000 in
theorem gX4_fillFirst_X4_shiftFar : GoodIn wsX4_fillFirst (wsV RX4 83 RX4 yX4_shiftFar wsX4_shiftFar) := goodIn_app (goodIn_of _ (by decide +kernel)) ggX4_fillFirst_X4_shiftFar
set_option maxRecDepth 20000 in
theorem ggX4_fillFirst_X2_overwrite : GoodIn wsX4_fillFirst wsX2_overwrite := goodIn_r _ [106, 107, 16, 17, 18, 19, 20, 21, 118, 119, 120, 121, 122] (by decide +kernel) (by decide +kernel)
set_option maxRecDepth 20000 in
theorem gX4_fillFirst_X2_overwrite : GoodIn wsX4_fillFirst (wsV RX4 87 RX2 yX2_overwrite wsX2_overwrite) := goodIn_app (goodIn_of _ (by decide +kernel)) ggX4_fillFirst_X2_overwrite
theorem dX4_fillFirst_0 : decode cX4_fillFirst 0 = .ok (.aload_n 0, 1) := by decide +kernel
theorem dX4_fillFirst_1 : decode cX4_fillFirst 1 = .ok (.invokevirtual 71, 3) := by decide +kernel
theorem dX4_fillFirst_4 : decode cX4_fillFirst 4 = .ok (.ifCond .ne 5, 3) := by decide +kernel
theorem dX4_fillFirst_7 : decode cX4_fillFirst 7 = .ok (.iconst 0, 1) := by decide +kernel
theorem dX4_fillFirst_8 : decode cX4_fillFirst 8 = .ok (.ireturn, 1) := by decide +kernel
theorem dX4_fillFirst_9 : decode cX4_fillFirst 9 = .ok (.iconst 0, 1) := by decide +kernel
theorem dX4_fillFirst_10 : decode cX4_fillFirst 10 = .ok (.istore_n 2, 1) := by decide +kernel
theorem dX4_fillFirst_11 : decode cX4_fillFirst 11 = .ok (.iload_n 2, 1) := by decide +kernel
theorem dX4_fillFirst_12 : decode cX4_fillFirst 12 = .ok (.aload_n 0, 1) := by decide +kernel
theorem dX4_fillFirst_13 : decode cX4_fillFirst 13 = .ok (.getfield 40, 3) := by decide +kernel
theorem dX4_fillFirst_16 : decode cX4_fillFirst 16 = .ok (.invokevirtual 75, 3) := by decide +kernel
theorem dX4_fillFirst_19 : decode cX4_fillFirst 19 = .ok (.if_icmp .ge 39, 3) := by decide +kernel
theorem dX4_fillFirst_22 : decode cX4_fillFirst 22 = .ok (.aload_n 0, 1) := by decide +kernel
theorem dX4_fillFirst_23 : decode cX4_fillFirst 23 = .ok (.iload_n 2, 1) := by decide +kernel
theorem dX4_fillFirst_24 : decode cX4_fillFirst 24 = .ok (.iconst (-1), 1) := by decide +kernel
theorem dX4_fillFirst_25 : decode cX4_fillFirst 25 = .ok (.invokevirtual 83, 3) := by decide +kernel
theorem dX4_fillFirst_28 : decode cX4_fillFirst 28 = .ok (.aload_n 0, 1) := by decide +kernel
theorem dX4_fillFirst_29 : decode cX4_fillFirst 29 = .ok (.getfield 22, 3) := by decide +kernel
theorem dX4_fillFirst_32 : decode cX4_fillFirst 32 = .ok (.iload_n 2, 1) := by decide +kernel
theorem dX4_fillFirst_33 : decode cX4_fillFirst 33 = .ok (.aload_n 0, 1) := by decide +kernel
theorem dX4_fillFirst_34 : decode cX4_fillFirst 34 = .ok (.getfield 18, 3) := by decide +kernel
theorem dX4_fillFirst_37 : decode cX4_fillFirst 37 = .ok (.iload_n 2, 1) := by decide +kernel
theorem dX4_fillFirst_38 : decode cX4_fillFirst 38 = .ok (.iaload, 1) := by decide +kernel
theorem dX4_fillFirst_39 : decode cX4_fillFirst 39 = .ok (.iastore, 1) := by decide +kernel
theorem dX4_fillFirst_40 : decode cX4_fillFirst 40 = .ok (.aload_n 0, 1) := by decide +kernel
theorem dX4_fillFirst_41 : decode cX4_fillFirst 41 = .ok (.getfield 25, 3) := by decide +kernel
theorem dX4_fillFirst_44 : decode cX4_fillFirst 44 = .ok (.iload_n 2, 1) := by decide +kernel
theorem dX4_fillFirst_45 : decode cX4_fillFirst 45 = .ok (.aload_n 0, 1) := by decide +kernel
theorem dX4_fillFirst_46 : decode cX4_fillFirst 46 = .ok (.getfield 18, 3) := by decide +kernel
theorem dX4_fillFirst_49 : decode cX4_fillFirst 49 = .ok (.iload_n 2, 1) := by decide +kernel
theorem dX4_fillFirst_50 : decode cX4_fillFirst 50 = .ok (.iaload, 1) := by decide +kernel
theorem dX4_fillFirst_51 : decode cX4_fillFirst 51 = .ok (.iastore, 1) := by decide +kernel
theorem dX4_fillFirst_52 : decode cX4_fillFirst 52 = .ok (.iinc 2 1, 3) := by decide +kernel
theorem dX4_fillFirst_55 : decode cX4_fillFirst 55 = .ok (.goto (-44), 3) := by decide +kernel
theorem dX4_fillFirst_58 : decode cX4_fillFirst 58 = .ok (.aload_n 0, 1) := by decide +kernel
theorem dX4_fillFirst_59 : decode cX4_fillFirst 59 = .ok (.getfield 40, 3) := by decide +kernel
theorem dX4_fillFirst_62 : decode cX4_fillFirst 62 = .ok (.aload_n 0, 1) := by decide +kernel
theorem dX4_fillFirst_63 : decode cX4_fillFirst 63 = .ok (.getfield 18, 3) := by decide +kernel
theorem dX4_fillFirst_66 : decode cX4_fillFirst 66 = .ok (.aload_n 1, 1) := by decide +kernel
theorem dX4_fillFirst_67 : decode cX4_fillFirst 67 = .ok (.invokevirtual 87, 3) := by decide +kernel
theorem dX4_fillFirst_70 : decode cX4_fillFirst 70 = .ok (.pop, 1) := by decide +kernel
theorem dX4_fillFirst_71 : decode cX4_fillFirst 71 = .ok (.iconst 1, 1) := by decide +kernel
theorem dX4_fillFirst_72 : decode cX4_fillFirst 72 = .ok (.ireturn, 1) := by decide +kernel
set_option maxRecDepth 20000 in
theorem ggX4_extreme_X4_makeOne : GoodIn wsX4_extreme wsX4_makeOne := goodIn_r _ [6, 7, 8, 9, 10, 5, 11, 12, 13, 14, 1, 15, 16, 17, 18, 19, 20, 21, 22, 23, 24, 25, 26, 27, 28, 29, 30, 31, 32, 33, 34, 35, 36, 37, 38, 39, 40, 41, 42, 43, 44, 45, 46, 47, 48, 49, 50, 51, 52, 53, 54, 55, 56, 57, 58, 59, 60, 61, 62, 63, 64, 65, 66, 67, 68, 69, 70, 71, 72, 73, 74, 75, 76, 77, 78, 79, 80, 81, 82, 83, 84, 103, 104, 105, 106, 107, 108, 109, 110, 111, 112, 113, 114, 115, 116, 117, 118, 119, 120, 121, 122, 123, 124] (by decide +kernel) (by decide +kernel)
set_option maxRecDepth 20000 in
theorem gX4_extreme_X4_makeOne : GoodIn wsX4_extreme (wsV RX4 71 RX4 yX4_makeOne wsX4_makeOne) := goodIn_app (goodIn_of _ (by decide +kernel)) ggX4_extreme_X4_makeOne
set_option maxRecDepth 20000 in
theorem ggX4_extreme_X4_shiftFar : GoodIn wsX4_extreme wsX4_shiftFar := goodIn_r _ [88, 89, 90, 91, 5, 92, 1, 12, 14, 7, 32, 93, 94, 95, 18, 96, 97, 98, 99, 100, 101, 102, 33, 34, 35, 36, 65, 66, 67, 68, 69, 70, 71, 72, 73, 74, 75, 76, 77, 78, 79, 58, 59, 60, 21, 20, 80, 62, 63, 64, 81, 82, 83, 84, 103, 104, 105, 106, 107, 108, 109, 110, 111, 112, 113, 114, 115, 116, 117] (by decide +kernel) (by decide +kernel)
set_option maxRecDepth 20000 in
theorem gX4_extreme_X4_shiftFar : GoodIn wsX4_extreme (wsV RX4 83 RX4 yX4_shiftFar wsX4_shiftFar) := goodIn_app (goodIn_of _ (by decide +kernel)) ggX4_extreme_X4_shiftFar
theorem dX4_extreme_0 : decode cX4_extreme 0 = .ok (.aload_n 0, 1) := by decide +kernel
theorem dX4_extreme_1 : decode cX4_extreme 1 = .ok (.invokevirtual 71, 3) := by decide +kernel
theorem dX4_extreme_4 : decode cX4_extreme 4 = .ok (.ifCond .ne 6, 3) := by decide +kernel
theorem dX4_extreme_7 : decode cX4_extreme 7 = .ok (.bipush (-9), 2) := by decide +kernel
theorem dX4_extreme_9 : decode cX4_extreme 9 = .ok (.ireturn, 1) := by decide +kernel
theorem dX4_extreme_10 : decode cX4_extreme 10 = .ok (.aload_n 0, 1) := by decide +kernel
theorem dX4_extreme_11 : decode cX4_extreme 11 = .ok (.iload_n 1, 1) := by decide +kernel
theorem dX4_extreme_12 : decode cX4_extreme 12 = .ok (.iload_n 2, 1) := by decide +kernel
theorem dX4_extreme_13 : decode cX4_extreme 13 = .ok (.ifCond .eq 7, 3) := by decide +kernel
theorem dX4_extreme_16 : decode cX4_extreme 16 = .ok (.iconst 1, 1) := by decide +kernel
theorem dX4_extreme_17 : decode cX4_extreme 17 = .ok (.goto 4, 3) := by decide +kernel
theorem dX4_extreme_20 : decode cX4_extreme 20 = .ok (.iconst (-1), 1) := by decide +kernel
theorem dX4_extreme_21 : decode cX4_extreme 21 = .ok (.invokevirtual 83, 3) := by decide +kernel
theorem dX4_extreme_24 : decode cX4_extreme 24 = .ok (.aload_n 0, 1) := by decide +kernel
theorem dX4_extreme_25 : decode cX4_extreme 25 = .ok (.getfield 18, 3) := by decide +kernel
theorem dX4_extreme_28 : decode cX4_extreme 28 = .ok (.iload_n 1, 1) := by decide +kernel
theorem dX4_extreme_29 : decode cX4_extreme 29 = .ok (.iaload, 1) := by decide +kernel
theorem dX4_extreme_30 : decode cX4_extreme 30 = .ok (.ireturn, 1) := by decide +kernel
set_option maxRecDepth 20000 in
theorem ggX4_makeOne_X4_startLow : GoodIn wsX4_makeOne wsX4_startLow := goodIn_r _ [6, 1, 7, 8, 9, 10, 11, 12, 13, 14, 15, 16, 17, 18, 19, 20, 21, 22, 23, 81, 82, 83, 84, 85, 86, 87, 88, 89, 90, 91, 92, 93, 94, 95, 96, 97, 98, 99, 100] (by decide +kernel) (by decide +kernel)
set_option maxRecDepth 20000 in
theorem gX4_makeOne_X4_startLow : GoodIn wsX4_makeOne (wsV RX4 91 RX4 yX4_startLow wsX4_startLow) := goodIn_app (goodIn_of _ (by decide +kernel)) ggX4_makeOne_X4_startLow
set_option maxRecDepth 20000 in
theorem ggX4_makeOne_X4_openColumns : GoodIn wsX4_makeOne wsX4_openColumns := goodIn_r _ [27, 28, 1, 29, 30, 31, 32, 33, 34, 35, 14, 36, 16, 17, 37, 38, 39, 5, 40, 41, 10, 42, 43, 44, 45, 46, 47, 48, 49, 50, 51, 52, 53, 54, 55, 56, 57, 58, 59, 60, 81, 82, 83, 84, 85, 86, 87, 88, 89, 90, 91, 92, 93, 94, 95, 101, 102] (by decide +kernel) (by decide +kernel)
set_option maxRecDepth 20000 in
theorem gX4_makeOne_X4_openColumns : GoodIn wsX4_makeOne (wsV RX4 94 RX4 yX4_openColumns wsX4_openColumns) := goodIn_app (goodIn_of _ (by decide +kernel)) ggX4_makeOne_X4_openColumns
set_option maxRecDepth 20000 in
theorem ggX4_makeOne_X2_lines : GoodIn wsX4_makeOne wsX2_lines := goodIn_r _ [36, 16, 17, 91, 92, 93, 94, 95] (by decide +kernel) (by decide +kernel)
set_option maxRecDepth 20000 in
theorem gX4_makeOne_X2_lines : GoodIn wsX4_makeOne (wsV RX4 60 RX2 yX2_lines wsX2_lines) := goodIn_app (goodIn_of _ (by decide +kernel)) ggX4_makeOne_X2_lines
set_option maxRecDepth 20000 in
theorem ggX4_makeOne_X4_missing : GoodIn wsX4_makeOne wsX4_missing := goodIn_r _ [40, 41, 1, 10, 42, 43, 44, 45, 46, 47, 48, 49, 50, 51, 14, 52, 53, 54, 55, 56, 17, 16, 57, 58, 59, 60, 81, 82, 83, 84, 85, 86, 87, 88, 89, 90, 101, 102, 91, 92, 93, 94, 95] (by decide +kernel) (by decide +kernel)
set_option maxRecDepth 20000 in
theorem gX4_makeOne_X4_missing : GoodIn wsX4_makeOne (wsV RX4 97 RX4 yX4_missing wsX4_missing) := goodIn_app (goodIn_of _ (by decide +kernel)) ggX4_makeOne_X4_missing
set_option maxRecDepth 20000 in
theorem ggX4_makeOne_X4_push : GoodIn wsX4_makeOne wsX4_push := goodIn_r _ [64, 28, 10, 65, 66, 67, 68, 69, 5, 70, 71, 1, 29, 30, 31, 32, 72, 73, 74, 75, 54, 55, 14, 56, 17, 16, 76, 58, 59, 60, 77, 78, 79, 80, 7, 9, 81, 82, 83, 84, 85, 86, 87, 88, 89, 90, 91, 92, 93, 94, 95] (by decide +kernel) (by decide +kernel)
set_option maxRecDepth 20000 in
theorem gX4_makeOne_X4_push : GoodIn wsX4_makeOne (wsV RX4 101 RX4 yX4_push wsX4_push) := goodIn_app (goodIn_of _ (by decide +kernel)) ggX4_makeOne_X4_push
theorem dX4_makeOne_0 : decode cX4_makeOne 0 = .ok (.aload_n 0, 1) := by decide +kernel
theorem dX4_makeOne_1 : decode cX4_makeOne 1 = .ok (.invokevirtual 91, 3) := by decide +kernel
theorem dX4_makeOne_4 : decode cX4_makeOne 4 = .ok (.aload_n 0, 1) := by decide +kernel
theorem dX4_makeOne_5 : decode cX4_makeOne 5 = .ok (.invokevirtual 94, 3) := by decide +kernel
theorem dX4_makeOne_8 : decode cX4_makeOne 8 = .ok (.ifCond .ne 5, 3) := by decide +kernel
theorem dX4_makeOne_11 : decode cX4_makeOne 11 = .ok (.iconst 0, 1) := by decide +kernel
theorem dX4_makeOne_12 : decode cX4_makeOne 12 = .ok (.ireturn, 1) := by decide +kernel
theorem dX4_makeOne_13 : decode cX4_makeOne 13 = .ok (.iconst 0, 1) := by decide +kernel
theorem dX4_makeOne_14 : decode cX4_makeOne 14 = .ok (.istore_n 1, 1) := by decide +kernel
theorem dX4_makeOne_15 : decode cX4_makeOne 15 = .ok (.iload_n 1, 1) := by decide +kernel
theorem dX4_makeOne_16 : decode cX4_makeOne 16 = .ok (.aload_n 0, 1) := by decide +kernel
theorem dX4_makeOne_17 : decode cX4_makeOne 17 = .ok (.getfield 40, 3) := by decide +kernel
theorem dX4_makeOne_20 : decode cX4_makeOne 20 = .ok (.iconst 0, 1) := by decide +kernel
theorem dX4_makeOne_21 : decode cX4_makeOne 21 = .ok (.invokevirtual 60, 3) := by decide +kernel
theorem dX4_makeOne_24 : decode cX4_makeOne 24 = .ok (.if_icmp .ge 36, 3) := by decide +kernel
theorem dX4_makeOne_27 : decode cX4_makeOne 27 = .ok (.aload_n 0, 1) := by decide +kernel
theorem dX4_makeOne_28 : decode cX4_makeOne 28 = .ok (.iconst 0, 1) := by decide +kernel
theorem dX4_makeOne_29 : decode cX4_makeOne 29 = .ok (.iload_n 1, 1) := by decide +kernel
theorem dX4_makeOne_30 : decode cX4_makeOne 30 = .ok (.invokevirtual 97, 3) := by decide +kernel
theorem dX4_makeOne_33 : decode cX4_makeOne 33 = .ok (.istore_n 2, 1) := by decide +kernel
theorem dX4_makeOne_34 : decode cX4_makeOne 34 = .ok (.iload_n 2, 1) := by decide +kernel
theorem dX4_makeOne_35 : decode cX4_makeOne 35 = .ok (.ifCond .le 19, 3) := by decide +kernel
theorem dX4_makeOne_38 : decode cX4_makeOne 38 = .ok (.aload_n 0, 1) := by decide +kernel
theorem dX4_makeOne_39 : decode cX4_makeOne 39 = .ok (.iload_n 1, 1) := by decide +kernel
theorem dX4_makeOne_40 : decode cX4_makeOne 40 = .ok (.invokevirtual 101, 3) := by decide +kernel
theorem dX4_makeOne_43 : decode cX4_makeOne 43 = .ok (.ifCond .ne 5, 3) := by decide +kernel
theorem dX4_makeOne_46 : decode cX4_makeOne 46 = .ok (.iconst 0, 1) := by decide +kernel
theorem dX4_makeOne_47 : decode cX4_makeOne 47 = .ok (.ireturn, 1) := by decide +kernel
theorem dX4_makeOne_48 : decode cX4_makeOne 48 = .ok (.iinc 2 (-1), 3) := by decide +kernel
theorem dX4_makeOne_51 : decode cX4_makeOne 51 = .ok (.goto (-17), 3) := by decide +kernel
theorem dX4_makeOne_54 : decode cX4_makeOne 54 = .ok (.iinc 1 1, 3) := by decide +kernel
theorem dX4_makeOne_57 : decode cX4_makeOne 57 = .ok (.goto (-42), 3) := by decide +kernel
theorem dX4_makeOne_60 : decode cX4_makeOne 60 = .ok (.iconst 1, 1) := by decide +kernel
theorem dX4_makeOne_61 : decode cX4_makeOne 61 = .ok (.ireturn, 1) := by decide +kernel
set_option maxRecDepth 20000 in
theorem ggX4_startLow_X2_cells : GoodIn wsX4_startLow wsX2_cells := goodIn_r _ [10, 11, 12, 29, 30, 31, 32, 33] (by decide +kernel) (by decide +kernel)
set_option maxRecDepth 20000 in
theorem gX4_startLow_X2_cells : GoodIn wsX4_startLow (wsV RX4 75 RX2 yX2_cells wsX2_cells) := goodIn_app (goodIn_of _ (by decide +kernel)) ggX4_startLow_X2_cells
set_option maxRecDepth 20000 in
theorem ggX4_startLow_X5_top : GoodIn wsX4_startLow wsX5_top := goodIn_r _ [17, 18, 34, 35, 36, 37, 38] (by decide +kernel) (by decide +kernel)
set_option maxRecDepth 20000 in
theorem gX4_startLow_X5_top : GoodIn wsX4_startLow (wsV RX4 105 RX5 yX5_top wsX5_top) := goodIn_app (goodIn_of _ (by decide +kernel)) ggX4_startLow_X5_top
theorem dX4_startLow_0 : decode cX4_startLow 0 = .ok (.iconst 0, 1) := by decide +kernel
theorem dX4_startLow_1 : decode cX4_startLow 1 = .ok (.istore_n 1, 1) := by decide +kernel
theorem dX4_startLow_2 : decode cX4_startLow 2 = .ok (.iload_n 1, 1) := by decide +kernel
theorem dX4_startLow_3 : decode cX4_startLow 3 = .ok (.aload_n 0, 1) := by decide +kernel
theorem dX4_startLow_4 : decode cX4_startLow 4 = .ok (.getfield 40, 3) := by decide +kernel
theorem dX4_startLow_7 : decode cX4_startLow 7 = .ok (.invokevirtual 75, 3) := by decide +kernel
theorem dX4_startLow_10 : decode cX4_startLow 10 = .ok (.if_icmp .ge 66, 3) := by decide +kernel
theorem dX4_startLow_13 : decode cX4_startLow 13 = .ok (.aload_n 0, 1) := by decide +kernel
theorem dX4_startLow_14 : decode cX4_startLow 14 = .ok (.getfield 22, 3) := by decide +kernel
theorem dX4_startLow_17 : decode cX4_startLow 17 = .ok (.iload_n 1, 1) := by decide +kernel
theorem dX4_startLow_18 : decode cX4_startLow 18 = .ok (.aload_n 0, 1) := by decide +kernel
theorem dX4_startLow_19 : decode cX4_startLow 19 = .ok (.getfield 44, 3) := by decide +kernel
theorem dX4_startLow_22 : decode cX4_startLow 22 = .ok (.iload_n 1, 1) := by decide +kernel
theorem dX4_startLow_23 : decode cX4_startLow 23 = .ok (.invokevirtual 105, 3) := by decide +kernel
theorem dX4_startLow_26 : decode cX4_startLow 26 = .ok (.iconst 1, 1) := by decide +kernel
theorem dX4_startLow_27 : decode cX4_startLow 27 = .ok (.if_icmp .ne 7, 3) := by decide +kernel
theorem dX4_startLow_30 : decode cX4_startLow 30 = .ok (.iconst 1, 1) := by decide +kernel
theorem dX4_startLow_31 : decode cX4_startLow 31 = .ok (.goto 4, 3) := by decide +kernel
theorem dX4_startLow_34 : decode cX4_startLow 34 = .ok (.iconst 0, 1) := by decide +kernel
theorem dX4_startLow_35 : decode cX4_startLow 35 = .ok (.iastore, 1) := by decide +kernel
theorem dX4_startLow_36 : decode cX4_startLow 36 = .ok (.aload_n 0, 1) := by decide +kernel
theorem dX4_startLow_37 : decode cX4_startLow 37 = .ok (.getfield 25, 3) := by decide +kernel
theorem dX4_startLow_40 : decode cX4_startLow 40 = .ok (.iload_n 1, 1) := by decide +kernel
theorem dX4_startLow_41 : decode cX4_startLow 41 = .ok (.aload_n 0, 1) := by decide +kernel
theorem dX4_startLow_42 : decode cX4_startLow 42 = .ok (.getfield 44, 3) := by decide +kernel
theorem dX4_startLow_45 : decode cX4_startLow 45 = .ok (.iload_n 1, 1) := by decide +kernel
theorem dX4_startLow_46 : decode cX4_startLow 46 = .ok (.invokevirtual 105, 3) := by decide +kernel
theorem dX4_startLow_49 : decode cX4_startLow 49 = .ok (.ifCond .ne 7, 3) := by decide +kernel
theorem dX4_startLow_52 : decode cX4_startLow 52 = .ok (.iconst 0, 1) := by decide +kernel
theorem dX4_startLow_53 : decode cX4_startLow 53 = .ok (.goto 4, 3) := by decide +kernel
theorem dX4_startLow_56 : decode cX4_startLow 56 = .ok (.iconst 4, 1) := by decide +kernel
theorem dX4_startLow_57 : decode cX4_startLow 57 = .ok (.iastore, 1) := by decide +kernel
theorem dX4_startLow_58 : decode cX4_startLow 58 = .ok (.aload_n 0, 1) := by decide +kernel
theorem dX4_startLow_59 : decode cX4_startLow 59 = .ok (.getfield 18, 3) := by decide +kernel
theorem dX4_startLow_62 : decode cX4_startLow 62 = .ok (.iload_n 1, 1) := by decide +kernel
theorem dX4_startLow_63 : decode cX4_startLow 63 = .ok (.aload_n 0, 1) := by decide +kernel
theorem dX4_startLow_64 : decode cX4_startLow 64 = .ok (.getfield 22, 3) := by decide +kernel
theorem dX4_startLow_67 : decode cX4_startLow 67 = .ok (.iload_n 1, 1) := by decide +kernel
theorem dX4_startLow_68 : decode cX4_startLow 68 = .ok (.iaload, 1) := by decide +kernel
theorem dX4_startLow_69 : decode cX4_startLow 69 = .ok (.iastore, 1) := by decide +kernel
theorem dX4_startLow_70 : decode cX4_startLow 70 = .ok (.iinc 1 1, 3) := by decide +kernel
theorem dX4_startLow_73 : decode cX4_startLow 73 = .ok (.goto (-71), 3) := by decide +kernel
theorem dX4_startLow_76 : decode cX4_startLow 76 = .ok (.return_, 1) := by decide +kernel
set_option maxRecDepth 20000 in
theorem ggX4_missing_X3_of : GoodIn wsX4_missing wsX3_of := goodIn_r _ [8, 9, 10, 36, 37] (by decide +kernel) (by decide +kernel)
set_option maxRecDepth 20000 in
theorem gX4_missing_X3_of : GoodIn wsX4_missing (wsV RX4 111 RX3 yX3_of wsX3_of) := goodIn_app (goodIn_of _ (by decide +kernel)) ggX4_missing_X3_of
set_option maxRecDepth 20000 in
theorem ggX4_missing_X2_lineTotal : GoodIn wsX4_missing wsX2_lineTotal := goodIn_r _ [15, 16, 17, 18, 14, 19, 20, 21, 22, 23, 24, 25, 38, 39, 40, 41, 42] (by decide +kernel) (by decide +kernel)
set_option maxRecDepth 20000 in
theorem gX4_missing_X2_lineTotal : GoodIn wsX4_missing (wsV RX4 66 RX2 yX2_lineTotal wsX2_lineTotal) := goodIn_app (goodIn_of _ (by decide +kernel)) ggX4_missing_X2_lineTotal
theorem dX4_missing_0 : decode cX4_missing 0 = .ok (.aload_n 0, 1) := by decide +kernel
theorem dX4_missing_1 : decode cX4_missing 1 = .ok (.getfield 12, 3) := by decide +kernel
theorem dX4_missing_4 : decode cX4_missing 4 = .ok (.iload_n 1, 1) := by decide +kernel
theorem dX4_missing_5 : decode cX4_missing 5 = .ok (.iload_n 2, 1) := by decide +kernel
theorem dX4_missing_6 : decode cX4_missing 6 = .ok (.invokevirtual 111, 3) := by decide +kernel
theorem dX4_missing_9 : decode cX4_missing 9 = .ok (.aload_n 0, 1) := by decide +kernel
theorem dX4_missing_10 : decode cX4_missing 10 = .ok (.getfield 40, 3) := by decide +kernel
theorem dX4_missing_13 : decode cX4_missing 13 = .ok (.aload_n 0, 1) := by decide +kernel
theorem dX4_missing_14 : decode cX4_missing 14 = .ok (.getfield 18, 3) := by decide +kernel
theorem dX4_missing_17 : decode cX4_missing 17 = .ok (.iload_n 1, 1) := by decide +kernel
theorem dX4_missing_18 : decode cX4_missing 18 = .ok (.iload_n 2, 1) := by decide +kernel
theorem dX4_missing_19 : decode cX4_missing 19 = .ok (.invokevirtual 66, 3) := by decide +kernel
theorem dX4_missing_22 : decode cX4_missing 22 = .ok (.isub, 1) := by decide +kernel
theorem dX4_missing_23 : decode cX4_missing 23 = .ok (.ireturn, 1) := by decide +kernel
set_option maxRecDepth 20000 in
theorem ggX4_openColumns_J7_fill_53178 : GoodIn wsX4_openColumns wsJ7_fill_53178 := goodIn_r _ [6] (by decide +kernel) (by decide +kernel)
set_option maxRecDepth 20000 in
theorem gX4_openColumns_J7_fill_53178 : GoodIn wsX4_openColumns (va_wsS RX4 114 yJ7_fill_53178 wsJ7_fill_53178) := goodIn_app (goodIn_of _ (by decide +kernel)) ggX4_openColumns_J7_fill_53178
set_option maxRecDepth 20000 in
theorem ggX4_openColumns_X2_lines : GoodIn wsX4_openColumns wsX2_lines := goodIn_r _ [11, 12, 13, 50, 51, 52, 53, 54] (by decide +kernel) (by decide +kernel)
set_option maxRecDepth 20000 in
theorem gX4_openColumns_X2_lines : GoodIn wsX4_openColumns (wsV RX4 60 RX2 yX2_lines wsX2_lines) := goodIn_app (goodIn_of _ (by decide +kernel)) ggX4_openColumns_X2_lines
set_option maxRecDepth 20000 in
theorem ggX4_openColumns_X4_missing : GoodIn wsX4_openColumns wsX4_missing := goodIn_r _ [18, 19, 2, 20, 21, 22, 23, 24, 25, 26, 27, 28, 29, 30, 10, 31, 32, 33, 34, 35, 13, 12, 36, 37, 38, 39, 40, 41, 42, 43, 44, 45, 46, 47, 48, 49, 55, 56, 50, 51, 52, 53, 54] (by decide +kernel) (by decide +kernel)
set_option maxRecDepth 20000 in
theorem gX4_openColumns_X4_missing : GoodIn wsX4_openColumns (wsV RX4 97 RX4 yX4_missing wsX4_missing) := goodIn_app (goodIn_of _ (by decide +kernel)) ggX4_openColumns_X4_missing
theorem dX4_openColumns_0 : decode cX4_openColumns 0 = .ok (.aload_n 0, 1) := by decide +kernel
theorem dX4_openColumns_1 : decode cX4_openColumns 1 = .ok (.getfield 28, 3) := by decide +kernel
theorem dX4_openColumns_4 : decode cX4_openColumns 4 = .ok (.iconst 0, 1) := by decide +kernel
theorem dX4_openColumns_5 : decode cX4_openColumns 5 = .ok (.invokestatic 114, 3) := by decide +kernel
theorem dX4_openColumns_8 : decode cX4_openColumns 8 = .ok (.iconst 0, 1) := by decide +kernel
theorem dX4_openColumns_9 : decode cX4_openColumns 9 = .ok (.istore_n 1, 1) := by decide +kernel
theorem dX4_openColumns_10 : decode cX4_openColumns 10 = .ok (.iconst 0, 1) := by decide +kernel
theorem dX4_openColumns_11 : decode cX4_openColumns 11 = .ok (.istore_n 2, 1) := by decide +kernel
theorem dX4_openColumns_12 : decode cX4_openColumns 12 = .ok (.iload_n 2, 1) := by decide +kernel
theorem dX4_openColumns_13 : decode cX4_openColumns 13 = .ok (.aload_n 0, 1) := by decide +kernel
theorem dX4_openColumns_14 : decode cX4_openColumns 14 = .ok (.getfield 40, 3) := by decide +kernel
theorem dX4_openColumns_17 : decode cX4_openColumns 17 = .ok (.iconst 0, 1) := by decide +kernel
theorem dX4_openColumns_18 : decode cX4_openColumns 18 = .ok (.invokevirtual 60, 3) := by decide +kernel
theorem dX4_openColumns_21 : decode cX4_openColumns 21 = .ok (.if_icmp .ge 29, 3) := by decide +kernel
theorem dX4_openColumns_24 : decode cX4_openColumns 24 = .ok (.aload_n 0, 1) := by decide +kernel
theorem dX4_openColumns_25 : decode cX4_openColumns 25 = .ok (.iconst 0, 1) := by decide +kernel
theorem dX4_openColumns_26 : decode cX4_openColumns 26 = .ok (.iload_n 2, 1) := by decide +kernel
theorem dX4_openColumns_27 : decode cX4_openColumns 27 = .ok (.invokevirtual 97, 3) := by decide +kernel
theorem dX4_openColumns_30 : decode cX4_openColumns 30 = .ok (.ifCond .ge 5, 3) := by decide +kernel
theorem dX4_openColumns_33 : decode cX4_openColumns 33 = .ok (.iconst 0, 1) := by decide +kernel
theorem dX4_openColumns_34 : decode cX4_openColumns 34 = .ok (.ireturn, 1) := by decide +kernel
theorem dX4_openColumns_35 : decode cX4_openColumns 35 = .ok (.iload_n 1, 1) := by decide +kernel
theorem dX4_openColumns_36 : decode cX4_openColumns 36 = .ok (.aload_n 0, 1) := by decide +kernel
theorem dX4_openColumns_37 : decode cX4_openColumns 37 = .ok (.iconst 0, 1) := by decide +kernel
theorem dX4_openColumns_38 : decode cX4_openColumns 38 = .ok (.iload_n 2, 1) := by decide +kernel
theorem dX4_openColumns_39 : decode cX4_openColumns 39 = .ok (.invokevirtual 97, 3) := by decide +kernel
theorem dX4_openColumns_42 : decode cX4_openColumns 42 = .ok (.iadd, 1) := by decide +kernel
theorem dX4_openColumns_43 : decode cX4_openColumns 43 = .ok (.istore_n 1, 1) := by decide +kernel
theorem dX4_openColumns_44 : decode cX4_openColumns 44 = .ok (.iinc 2 1, 3) := by decide +kernel
theorem dX4_openColumns_47 : decode cX4_openColumns 47 = .ok (.goto (-35), 3) := by decide +kernel
theorem dX4_openColumns_50 : decode cX4_openColumns 50 = .ok (.iconst 0, 1) := by decide +kernel
theorem dX4_openColumns_51 : decode cX4_openColumns 51 = .ok (.istore_n 2, 1) := by decide +kernel
theorem dX4_openColumns_52 : decode cX4_openColumns 52 = .ok (.iload_n 2, 1) := by decide +kernel
theorem dX4_openColumns_53 : decode cX4_openColumns 53 = .ok (.aload_n 0, 1) := by decide +kernel
theorem dX4_openColumns_54 : decode cX4_openColumns 54 = .ok (.getfield 40, 3) := by decide +kernel
theorem dX4_openColumns_57 : decode cX4_openColumns 57 = .ok (.iconst 1, 1) := by decide +kernel
theorem dX4_openColumns_58 : decode cX4_openColumns 58 = .ok (.invokevirtual 60, 3) := by decide +kernel
theorem dX4_openColumns_61 : decode cX4_openColumns 61 = .ok (.if_icmp .ge 43, 3) := by decide +kernel
theorem dX4_openColumns_64 : decode cX4_openColumns 64 = .ok (.aload_n 0, 1) := by decide +kernel
theorem dX4_openColumns_65 : decode cX4_openColumns 65 = .ok (.iconst 1, 1) := by decide +kernel
theorem dX4_openColumns_66 : decode cX4_openColumns 66 = .ok (.iload_n 2, 1) := by decide +kernel
theorem dX4_openColumns_67 : decode cX4_openColumns 67 = .ok (.invokevirtual 97, 3) := by decide +kernel
theorem dX4_openColumns_70 : decode cX4_openColumns 70 = .ok (.ifCond .ge 5, 3) := by decide +kernel
theorem dX4_openColumns_73 : decode cX4_openColumns 73 = .ok (.iconst 0, 1) := by decide +kernel
theorem dX4_openColumns_74 : decode cX4_openColumns 74 = .ok (.ireturn, 1) := by decide +kernel
theorem dX4_openColumns_75 : decode cX4_openColumns 75 = .ok (.aload_n 0, 1) := by decide +kernel
theorem dX4_openColumns_76 : decode cX4_openColumns 76 = .ok (.getfield 28, 3) := by decide +kernel
theorem dX4_openColumns_79 : decode cX4_openColumns 79 = .ok (.iconst 5, 1) := by decide +kernel
theorem dX4_openColumns_80 : decode cX4_openColumns 80 = .ok (.iload_n 2, 1) := by decide +kernel
theorem dX4_openColumns_81 : decode cX4_openColumns 81 = .ok (.iadd, 1) := by decide +kernel
theorem dX4_openColumns_82 : decode cX4_openColumns 82 = .ok (.aload_n 0, 1) := by decide +kernel
theorem dX4_openColumns_83 : decode cX4_openColumns 83 = .ok (.iconst 1, 1) := by decide +kernel
theorem dX4_openColumns_84 : decode cX4_openColumns 84 = .ok (.iload_n 2, 1) := by decide +kernel
theorem dX4_openColumns_85 : decode cX4_openColumns 85 = .ok (.invokevirtual 97, 3) := by decide +kernel
theorem dX4_openColumns_88 : decode cX4_openColumns 88 = .ok (.iastore, 1) := by decide +kernel
theorem dX4_openColumns_89 : decode cX4_openColumns 89 = .ok (.iload_n 1, 1) := by decide +kernel
theorem dX4_openColumns_90 : decode cX4_openColumns 90 = .ok (.aload_n 0, 1) := by decide +kernel
theorem dX4_openColumns_91 : decode cX4_openColumns 91 = .ok (.iconst 1, 1) := by decide +kernel
theorem dX4_openColumns_92 : decode cX4_openColumns 92 = .ok (.iload_n 2, 1) := by decide +kernel
theorem dX4_openColumns_93 : decode cX4_openColumns 93 = .ok (.invokevirtual 97, 3) := by decide +kernel
theorem dX4_openColumns_96 : decode cX4_openColumns 96 = .ok (.isub, 1) := by decide +kernel
theorem dX4_openColumns_97 : decode cX4_openColumns 97 = .ok (.istore_n 1, 1) := by decide +kernel
theorem dX4_openColumns_98 : decode cX4_openColumns 98 = .ok (.iinc 2 1, 3) := by decide +kernel
theorem dX4_openColumns_101 : decode cX4_openColumns 101 = .ok (.goto (-49), 3) := by decide +kernel
theorem dX4_openColumns_104 : decode cX4_openColumns 104 = .ok (.iload_n 1, 1) := by decide +kernel
theorem dX4_openColumns_105 : decode cX4_openColumns 105 = .ok (.ifCond .ne 7, 3) := by decide +kernel
theorem dX4_openColumns_108 : decode cX4_openColumns 108 = .ok (.iconst 1, 1) := by decide +kernel
theorem dX4_openColumns_109 : decode cX4_openColumns 109 = .ok (.goto 4, 3) := by decide +kernel
theorem dX4_openColumns_112 : decode cX4_openColumns 112 = .ok (.iconst 0, 1) := by decide +kernel
theorem dX4_openColumns_113 : decode cX4_openColumns 113 = .ok (.ireturn, 1) := by decide +kernel
set_option maxRecDepth 20000 in
theorem ggX4_shiftFar_X4_shift : GoodIn wsX4_shiftFar wsX4_shift := goodIn_r _ [5, 6, 7, 8, 9, 10, 11, 12, 13, 14, 15, 16, 17, 18, 19, 20, 21, 22, 23, 24, 25, 26, 27, 28, 4, 29, 30, 31, 32, 33, 34, 35, 36, 37, 38, 39, 40, 41, 42, 43, 44, 45, 46, 47, 48, 49, 50, 51, 52, 53, 54, 55, 56, 57, 58, 59, 60, 61, 62, 63, 64, 65, 66, 67, 68] (by decide +kernel) (by decide +kernel)
set_option maxRecDepth 20000 in
theorem gX4_shiftFar_X4_shift : GoodIn wsX4_shiftFar (wsV RX4 79 RX4 yX4_shift wsX4_shift) := goodIn_app (goodIn_of _ (by decide +kernel)) ggX4_shiftFar_X4_shift
theorem dX4_shiftFar_0 : decode cX4_shiftFar 0 = .ok (.iconst 1, 1) := by decide +kernel
theorem dX4_shiftFar_1 : decode cX4_shiftFar 1 = .ok (.istore_n 3, 1) := by decide +kernel
theorem dX4_shiftFar_2 : decode cX4_shiftFar 2 = .ok (.iconst 0, 1) := by decide +kernel
theorem dX4_shiftFar_3 : decode cX4_shiftFar 3 = .ok (.istore 4, 2) := by decide +kernel
theorem dX4_shiftFar_5 : decode cX4_shiftFar 5 = .ok (.iload 4, 2) := by decide +kernel
theorem dX4_shiftFar_7 : decode cX4_shiftFar 7 = .ok (.iconst 4, 1) := by decide +kernel
theorem dX4_shiftFar_8 : decode cX4_shiftFar 8 = .ok (.if_icmp .ge 20, 3) := by decide +kernel
theorem dX4_shiftFar_11 : decode cX4_shiftFar 11 = .ok (.iload_n 3, 1) := by decide +kernel
theorem dX4_shiftFar_12 : decode cX4_shiftFar 12 = .ok (.ifCond .eq 16, 3) := by decide +kernel
theorem dX4_shiftFar_15 : decode cX4_shiftFar 15 = .ok (.aload_n 0, 1) := by decide +kernel
theorem dX4_shiftFar_16 : decode cX4_shiftFar 16 = .ok (.iload_n 1, 1) := by decide +kernel
theorem dX4_shiftFar_17 : decode cX4_shiftFar 17 = .ok (.iload_n 2, 1) := by decide +kernel
theorem dX4_shiftFar_18 : decode cX4_shiftFar 18 = .ok (.invokevirtual 79, 3) := by decide +kernel
theorem dX4_shiftFar_21 : decode cX4_shiftFar 21 = .ok (.istore_n 3, 1) := by decide +kernel
theorem dX4_shiftFar_22 : decode cX4_shiftFar 22 = .ok (.iinc 4 1, 3) := by decide +kernel
theorem dX4_shiftFar_25 : decode cX4_shiftFar 25 = .ok (.goto (-20), 3) := by decide +kernel
theorem dX4_shiftFar_28 : decode cX4_shiftFar 28 = .ok (.return_, 1) := by decide +kernel
set_option maxRecDepth 20000 in
theorem ggX4_shift_X2_y : GoodIn wsX4_shift wsX2_y := goodIn_r _ [10, 11, 60, 61, 62, 63, 64] (by decide +kernel) (by decide +kernel)
set_option maxRecDepth 20000 in
theorem gX4_shift_X2_y : GoodIn wsX4_shift (wsV RX4 120 RX2 yX2_y wsX2_y) := goodIn_app (goodIn_of _ (by decide +kernel)) ggX4_shift_X2_y
set_option maxRecDepth 20000 in
theorem ggX4_shift_X2_x : GoodIn wsX4_shift wsX2_x := goodIn_r _ [15, 16, 60, 61, 62, 63, 64] (by decide +kernel) (by decide +kernel)
set_option maxRecDepth 20000 in
theorem gX4_shift_X2_x : GoodIn wsX4_shift (wsV RX4 123 RX2 yX2_x wsX2_x) := goodIn_app (goodIn_of _ (by decide +kernel)) ggX4_shift_X2_x
set_option maxRecDepth 20000 in
theorem ggX4_shift_J7_fill_53178 : GoodIn wsX4_shift wsJ7_fill_53178 := goodIn_r _ [20] (by decide +kernel) (by decide +kernel)
set_option maxRecDepth 20000 in
theorem gX4_shift_J7_fill_53178 : GoodIn wsX4_shift (va_wsS RX4 114 yJ7_fill_53178 wsJ7_fill_53178) := goodIn_app (goodIn_of _ (by decide +kernel)) ggX4_shift_J7_fill_53178
set_option maxRecDepth 20000 in
theorem ggX4_shift_X4_push : GoodIn wsX4_shift wsX4_push := goodIn_r _ [25, 5, 1, 26, 27, 28, 29, 30, 24, 31, 32, 4, 17, 18, 19, 20, 33, 34, 35, 36, 37, 38, 9, 39, 40, 41, 42, 43, 44, 45, 46, 47, 48, 49, 2, 3, 50, 51, 52, 53, 54, 55, 56, 57, 58, 59, 60, 61, 62, 63, 64] (by decide +kernel) (by decide +kernel)
set_option maxRecDepth 20000 in
theorem gX4_shift_X4_push : GoodIn wsX4_shift (wsV RX4 101 RX4 yX4_push wsX4_push) := goodIn_app (goodIn_of _ (by decide +kernel)) ggX4_shift_X4_push
theorem dX4_shift_0 : decode cX4_shift 0 = .ok (.aload_n 0, 1) := by decide +kernel
theorem dX4_shift_1 : decode cX4_shift 1 = .ok (.getfield 18, 3) := by decide +kernel
theorem dX4_shift_4 : decode cX4_shift 4 = .ok (.iload_n 1, 1) := by decide +kernel
theorem dX4_shift_5 : decode cX4_shift 5 = .ok (.iaload, 1) := by decide +kernel
theorem dX4_shift_6 : decode cX4_shift 6 = .ok (.iload_n 2, 1) := by decide +kernel
theorem dX4_shift_7 : decode cX4_shift 7 = .ok (.iadd, 1) := by decide +kernel
theorem dX4_shift_8 : decode cX4_shift 8 = .ok (.istore_n 3, 1) := by decide +kernel
theorem dX4_shift_9 : decode cX4_shift 9 = .ok (.aload_n 0, 1) := by decide +kernel
theorem dX4_shift_10 : decode cX4_shift 10 = .ok (.getfield 22, 3) := by decide +kernel
theorem dX4_shift_13 : decode cX4_shift 13 = .ok (.iload_n 1, 1) := by decide +kernel
theorem dX4_shift_14 : decode cX4_shift 14 = .ok (.iaload, 1) := by decide +kernel
theorem dX4_shift_15 : decode cX4_shift 15 = .ok (.istore 4, 2) := by decide +kernel
theorem dX4_shift_17 : decode cX4_shift 17 = .ok (.aload_n 0, 1) := by decide +kernel
theorem dX4_shift_18 : decode cX4_shift 18 = .ok (.getfield 25, 3) := by decide +kernel
theorem dX4_shift_21 : decode cX4_shift 21 = .ok (.iload_n 1, 1) := by decide +kernel
theorem dX4_shift_22 : decode cX4_shift 22 = .ok (.iaload, 1) := by decide +kernel
theorem dX4_shift_23 : decode cX4_shift 23 = .ok (.istore 5, 2) := by decide +kernel
theorem dX4_shift_25 : decode cX4_shift 25 = .ok (.iload_n 3, 1) := by decide +kernel
theorem dX4_shift_26 : decode cX4_shift 26 = .ok (.iload 4, 2) := by decide +kernel
theorem dX4_shift_28 : decode cX4_shift 28 = .ok (.if_icmp .lt 9, 3) := by decide +kernel
theorem dX4_shift_31 : decode cX4_shift 31 = .ok (.iload_n 3, 1) := by decide +kernel
theorem dX4_shift_32 : decode cX4_shift 32 = .ok (.iload 5, 2) := by decide +kernel
theorem dX4_shift_34 : decode cX4_shift 34 = .ok (.if_icmp .le 5, 3) := by decide +kernel
theorem dX4_shift_37 : decode cX4_shift 37 = .ok (.iconst 0, 1) := by decide +kernel
theorem dX4_shift_38 : decode cX4_shift 38 = .ok (.ireturn, 1) := by decide +kernel
theorem dX4_shift_39 : decode cX4_shift 39 = .ok (.aload_n 0, 1) := by decide +kernel
theorem dX4_shift_40 : decode cX4_shift 40 = .ok (.getfield 18, 3) := by decide +kernel
theorem dX4_shift_43 : decode cX4_shift 43 = .ok (.iload_n 1, 1) := by decide +kernel
theorem dX4_shift_44 : decode cX4_shift 44 = .ok (.iload_n 3, 1) := by decide +kernel
theorem dX4_shift_45 : decode cX4_shift 45 = .ok (.iastore, 1) := by decide +kernel
theorem dX4_shift_46 : decode cX4_shift 46 = .ok (.aload_n 0, 1) := by decide +kernel
theorem dX4_shift_47 : decode cX4_shift 47 = .ok (.getfield 22, 3) := by decide +kernel
theorem dX4_shift_50 : decode cX4_shift 50 = .ok (.iload_n 1, 1) := by decide +kernel
theorem dX4_shift_51 : decode cX4_shift 51 = .ok (.iload_n 3, 1) := by decide +kernel
theorem dX4_shift_52 : decode cX4_shift 52 = .ok (.iastore, 1) := by decide +kernel
theorem dX4_shift_53 : decode cX4_shift 53 = .ok (.aload_n 0, 1) := by decide +kernel
theorem dX4_shift_54 : decode cX4_shift 54 = .ok (.getfield 25, 3) := by decide +kernel
theorem dX4_shift_57 : decode cX4_shift 57 = .ok (.iload_n 1, 1) := by decide +kernel
theorem dX4_shift_58 : decode cX4_shift 58 = .ok (.iload_n 3, 1) := by decide +kernel
theorem dX4_shift_59 : decode cX4_shift 59 = .ok (.iastore, 1) := by decide +kernel
theorem dX4_shift_60 : decode cX4_shift 60 = .ok (.aload_n 0, 1) := by decide +kernel
theorem dX4_shift_61 : decode cX4_shift 61 = .ok (.getfield 40, 3) := by decide +kernel
theorem dX4_shift_64 : decode cX4_shift 64 = .ok (.iload_n 1, 1) := by decide +kernel
theorem dX4_shift_65 : decode cX4_shift 65 = .ok (.invokevirtual 120, 3) := by decide +kernel
theorem dX4_shift_68 : decode cX4_shift 68 = .ok (.istore 6, 2) := by decide +kernel
theorem dX4_shift_70 : decode cX4_shift 70 = .ok (.iconst 5, 1) := by decide +kernel
theorem dX4_shift_71 : decode cX4_shift 71 = .ok (.aload_n 0, 1) := by decide +kernel
theorem dX4_shift_72 : decode cX4_shift 72 = .ok (.getfield 40, 3) := by decide +kernel
theorem dX4_shift_75 : decode cX4_shift 75 = .ok (.iload_n 1, 1) := by decide +kernel
theorem dX4_shift_76 : decode cX4_shift 76 = .ok (.invokevirtual 123, 3) := by decide +kernel
theorem dX4_shift_79 : decode cX4_shift 79 = .ok (.iadd, 1) := by decide +kernel
theorem dX4_shift_80 : decode cX4_shift 80 = .ok (.istore 7, 2) := by decide +kernel
theorem dX4_shift_82 : decode cX4_shift 82 = .ok (.aload_n 0, 1) := by decide +kernel
theorem dX4_shift_83 : decode cX4_shift 83 = .ok (.getfield 28, 3) := by decide +kernel
theorem dX4_shift_86 : decode cX4_shift 86 = .ok (.iconst 0, 1) := by decide +kernel
theorem dX4_shift_87 : decode cX4_shift 87 = .ok (.invokestatic 114, 3) := by decide +kernel
theorem dX4_shift_90 : decode cX4_shift 90 = .ok (.aload_n 0, 1) := by decide +kernel
theorem dX4_shift_91 : decode cX4_shift 91 = .ok (.getfield 28, 3) := by decide +kernel
theorem dX4_shift_94 : decode cX4_shift 94 = .ok (.iload_n 2, 1) := by decide +kernel
theorem dX4_shift_95 : decode cX4_shift 95 = .ok (.ifCond .ge 8, 3) := by decide +kernel
theorem dX4_shift_98 : decode cX4_shift 98 = .ok (.iload 7, 2) := by decide +kernel
theorem dX4_shift_100 : decode cX4_shift 100 = .ok (.goto 5, 3) := by decide +kernel
theorem dX4_shift_103 : decode cX4_shift 103 = .ok (.iload 6, 2) := by decide +kernel
theorem dX4_shift_105 : decode cX4_shift 105 = .ok (.iconst 1, 1) := by decide +kernel
theorem dX4_shift_106 : decode cX4_shift 106 = .ok (.iastore, 1) := by decide +kernel
theorem dX4_shift_107 : decode cX4_shift 107 = .ok (.aload_n 0, 1) := by decide +kernel
theorem dX4_shift_108 : decode cX4_shift 108 = .ok (.iload_n 2, 1) := by decide +kernel
theorem dX4_shift_109 : decode cX4_shift 109 = .ok (.ifCond .ge 8, 3) := by decide +kernel
theorem dX4_shift_112 : decode cX4_shift 112 = .ok (.iload 6, 2) := by decide +kernel
theorem dX4_shift_114 : decode cX4_shift 114 = .ok (.goto 5, 3) := by decide +kernel
theorem dX4_shift_117 : decode cX4_shift 117 = .ok (.iload 7, 2) := by decide +kernel
theorem dX4_shift_119 : decode cX4_shift 119 = .ok (.invokevirtual 101, 3) := by decide +kernel
theorem dX4_shift_122 : decode cX4_shift 122 = .ok (.istore 8, 2) := by decide +kernel
theorem dX4_shift_124 : decode cX4_shift 124 = .ok (.iload 8, 2) := by decide +kernel
theorem dX4_shift_126 : decode cX4_shift 126 = .ok (.ifCond .ne 12, 3) := by decide +kernel
theorem dX4_shift_129 : decode cX4_shift 129 = .ok (.aload_n 0, 1) := by decide +kernel
theorem dX4_shift_130 : decode cX4_shift 130 = .ok (.getfield 18, 3) := by decide +kernel
theorem dX4_shift_133 : decode cX4_shift 133 = .ok (.iload_n 1, 1) := by decide +kernel
theorem dX4_shift_134 : decode cX4_shift 134 = .ok (.iload_n 3, 1) := by decide +kernel
theorem dX4_shift_135 : decode cX4_shift 135 = .ok (.iload_n 2, 1) := by decide +kernel
theorem dX4_shift_136 : decode cX4_shift 136 = .ok (.isub, 1) := by decide +kernel
theorem dX4_shift_137 : decode cX4_shift 137 = .ok (.iastore, 1) := by decide +kernel
theorem dX4_shift_138 : decode cX4_shift 138 = .ok (.aload_n 0, 1) := by decide +kernel
theorem dX4_shift_139 : decode cX4_shift 139 = .ok (.getfield 22, 3) := by decide +kernel
theorem dX4_shift_142 : decode cX4_shift 142 = .ok (.iload_n 1, 1) := by decide +kernel
theorem dX4_shift_143 : decode cX4_shift 143 = .ok (.iload 4, 2) := by decide +kernel
theorem dX4_shift_145 : decode cX4_shift 145 = .ok (.iastore, 1) := by decide +kernel
theorem dX4_shift_146 : decode cX4_shift 146 = .ok (.aload_n 0, 1) := by decide +kernel
theorem dX4_shift_147 : decode cX4_shift 147 = .ok (.getfield 25, 3) := by decide +kernel
theorem dX4_shift_150 : decode cX4_shift 150 = .ok (.iload_n 1, 1) := by decide +kernel
theorem dX4_shift_151 : decode cX4_shift 151 = .ok (.iload 5, 2) := by decide +kernel
theorem dX4_shift_153 : decode cX4_shift 153 = .ok (.iastore, 1) := by decide +kernel
theorem dX4_shift_154 : decode cX4_shift 154 = .ok (.iload 8, 2) := by decide +kernel
theorem dX4_shift_156 : decode cX4_shift 156 = .ok (.ireturn, 1) := by decide +kernel
set_option maxRecDepth 20000 in
theorem ggX4_push_X4_findOpen : GoodIn wsX4_push wsX4_findOpen := goodIn_r _ [9, 4, 10, 11, 3, 1, 12, 13, 14, 15, 16, 17, 8, 18, 19, 20, 21, 22, 23, 24, 25, 26, 27, 28, 29, 30, 31, 32, 33, 2, 34, 35, 36, 37, 38, 39, 40, 41, 42, 43, 44, 45, 46, 47, 48, 49, 50] (by decide +kernel) (by decide +kernel)
set_option maxRecDepth 20000 in
theorem gX4_push_X4_findOpen : GoodIn wsX4_push (wsV RX4 126 RX4 yX4_findOpen wsX4_findOpen) := goodIn_app (goodIn_of _ (by decide +kernel)) ggX4_push_X4_findOpen
set_option maxRecDepth 20000 in
theorem ggX4_push_X4_isColumn : GoodIn wsX4_push wsX4_isColumn := goodIn_r _ [18] (by decide +kernel) (by decide +kernel)
set_option maxRecDepth 20000 in
theorem gX4_push_X4_isColumn : GoodIn wsX4_push (va_wsS RX4 129 yX4_isColumn wsX4_isColumn) := goodIn_app (goodIn_of _ (by decide +kernel)) ggX4_push_X4_isColumn
theorem dX4_push_0 : decode cX4_push 0 = .ok (.aload_n 0, 1) := by decide +kernel
theorem dX4_push_1 : decode cX4_push 1 = .ok (.iload_n 1, 1) := by decide +kernel
theorem dX4_push_2 : decode cX4_push 2 = .ok (.invokevirtual 126, 3) := by decide +kernel
theorem dX4_push_5 : decode cX4_push 5 = .ok (.istore_n 2, 1) := by decide +kernel
theorem dX4_push_6 : decode cX4_push 6 = .ok (.iload_n 2, 1) := by decide +kernel
theorem dX4_push_7 : decode cX4_push 7 = .ok (.iconst (-1), 1) := by decide +kernel
theorem dX4_push_8 : decode cX4_push 8 = .ok (.if_icmp .ne 5, 3) := by decide +kernel
theorem dX4_push_11 : decode cX4_push 11 = .ok (.iconst 0, 1) := by decide +kernel
theorem dX4_push_12 : decode cX4_push 12 = .ok (.ireturn, 1) := by decide +kernel
theorem dX4_push_13 : decode cX4_push 13 = .ok (.aload_n 0, 1) := by decide +kernel
theorem dX4_push_14 : decode cX4_push 14 = .ok (.getfield 28, 3) := by decide +kernel
theorem dX4_push_17 : decode cX4_push 17 = .ok (.iload_n 2, 1) := by decide +kernel
theorem dX4_push_18 : decode cX4_push 18 = .ok (.dup2, 1) := by decide +kernel
theorem dX4_push_19 : decode cX4_push 19 = .ok (.iaload, 1) := by decide +kernel
theorem dX4_push_20 : decode cX4_push 20 = .ok (.iconst 1, 1) := by decide +kernel
theorem dX4_push_21 : decode cX4_push 21 = .ok (.isub, 1) := by decide +kernel
theorem dX4_push_22 : decode cX4_push 22 = .ok (.iastore, 1) := by decide +kernel
theorem dX4_push_23 : decode cX4_push 23 = .ok (.iload_n 2, 1) := by decide +kernel
theorem dX4_push_24 : decode cX4_push 24 = .ok (.istore_n 3, 1) := by decide +kernel
theorem dX4_push_25 : decode cX4_push 25 = .ok (.iconst 0, 1) := by decide +kernel
theorem dX4_push_26 : decode cX4_push 26 = .ok (.istore 4, 2) := by decide +kernel
theorem dX4_push_28 : decode cX4_push 28 = .ok (.iload 4, 2) := by decide +kernel
theorem dX4_push_30 : decode cX4_push 30 = .ok (.bipush 10, 2) := by decide +kernel
theorem dX4_push_32 : decode cX4_push 32 = .ok (.if_icmp .ge 52, 3) := by decide +kernel
theorem dX4_push_35 : decode cX4_push 35 = .ok (.iload_n 3, 1) := by decide +kernel
theorem dX4_push_36 : decode cX4_push 36 = .ok (.iload_n 1, 1) := by decide +kernel
theorem dX4_push_37 : decode cX4_push 37 = .ok (.if_icmp .eq 47, 3) := by decide +kernel
theorem dX4_push_40 : decode cX4_push 40 = .ok (.iload_n 3, 1) := by decide +kernel
theorem dX4_push_41 : decode cX4_push 41 = .ok (.iconst (-1), 1) := by decide +kernel
theorem dX4_push_42 : decode cX4_push 42 = .ok (.if_icmp .eq 42, 3) := by decide +kernel
theorem dX4_push_45 : decode cX4_push 45 = .ok (.aload_n 0, 1) := by decide +kernel
theorem dX4_push_46 : decode cX4_push 46 = .ok (.getfield 18, 3) := by decide +kernel
theorem dX4_push_49 : decode cX4_push 49 = .ok (.aload_n 0, 1) := by decide +kernel
theorem dX4_push_50 : decode cX4_push 50 = .ok (.getfield 34, 3) := by decide +kernel
theorem dX4_push_53 : decode cX4_push 53 = .ok (.iload_n 3, 1) := by decide +kernel
theorem dX4_push_54 : decode cX4_push 54 = .ok (.iaload, 1) := by decide +kernel
theorem dX4_push_55 : decode cX4_push 55 = .ok (.dup2, 1) := by decide +kernel
theorem dX4_push_56 : decode cX4_push 56 = .ok (.iaload, 1) := by decide +kernel
theorem dX4_push_57 : decode cX4_push 57 = .ok (.iload_n 3, 1) := by decide +kernel
theorem dX4_push_58 : decode cX4_push 58 = .ok (.invokestatic 129, 3) := by decide +kernel
theorem dX4_push_61 : decode cX4_push 61 = .ok (.ifCond .eq 7, 3) := by decide +kernel
theorem dX4_push_64 : decode cX4_push 64 = .ok (.iconst 1, 1) := by decide +kernel
theorem dX4_push_65 : decode cX4_push 65 = .ok (.goto 4, 3) := by decide +kernel
theorem dX4_push_68 : decode cX4_push 68 = .ok (.iconst (-1), 1) := by decide +kernel
theorem dX4_push_69 : decode cX4_push 69 = .ok (.iadd, 1) := by decide +kernel
theorem dX4_push_70 : decode cX4_push 70 = .ok (.iastore, 1) := by decide +kernel
theorem dX4_push_71 : decode cX4_push 71 = .ok (.aload_n 0, 1) := by decide +kernel
theorem dX4_push_72 : decode cX4_push 72 = .ok (.getfield 31, 3) := by decide +kernel
theorem dX4_push_75 : decode cX4_push 75 = .ok (.iload_n 3, 1) := by decide +kernel
theorem dX4_push_76 : decode cX4_push 76 = .ok (.iaload, 1) := by decide +kernel
theorem dX4_push_77 : decode cX4_push 77 = .ok (.istore_n 3, 1) := by decide +kernel
theorem dX4_push_78 : decode cX4_push 78 = .ok (.iinc 4 1, 3) := by decide +kernel
theorem dX4_push_81 : decode cX4_push 81 = .ok (.goto (-53), 3) := by decide +kernel
theorem dX4_push_84 : decode cX4_push 84 = .ok (.iconst 1, 1) := by decide +kernel
theorem dX4_push_85 : decode cX4_push 85 = .ok (.ireturn, 1) := by decide +kernel
set_option maxRecDepth 20000 in
theorem ggX4_findOpen_J7_fill_53178 : GoodIn wsX4_findOpen wsJ7_fill_53178 := goodIn_r _ [9] (by decide +kernel) (by decide +kernel)
set_option maxRecDepth 20000 in
theorem gX4_findOpen_J7_fill_53178 : GoodIn wsX4_findOpen (va_wsS RX4 114 yJ7_fill_53178 wsJ7_fill_53178) := goodIn_app (goodIn_of _ (by decide +kernel)) ggX4_findOpen_J7_fill_53178
set_option maxRecDepth 20000 in
theorem ggX4_findOpen_X4_isColumn : GoodIn wsX4_findOpen wsX4_isColumn := goodIn_r _ [13] (by decide +kernel) (by decide +kernel)
set_option maxRecDepth 20000 in
theorem gX4_findOpen_X4_isColumn : GoodIn wsX4_findOpen (va_wsS RX4 129 yX4_isColumn wsX4_isColumn) := goodIn_app (goodIn_of _ (by decide +kernel)) ggX4_findOpen_X4_isColumn
set_option maxRecDepth 20000 in
theorem ggX4_findOpen_X2_length : GoodIn wsX4_findOpen wsX2_length := goodIn_r _ [18, 19, 20, 42, 43, 44, 45, 46] (by decide +kernel) (by decide +kernel)
set_option maxRecDepth 20000 in
theorem gX4_findOpen_X2_length : GoodIn wsX4_findOpen (wsV RX4 132 RX2 yX2_length wsX2_length) := goodIn_app (goodIn_of _ (by decide +kernel)) ggX4_findOpen_X2_length
set_option maxRecDepth 20000 in
theorem ggX4_findOpen_X2_onLine : GoodIn wsX4_findOpen wsX2_onLine := goodIn_r _ [24, 20, 42, 43, 44, 45, 46] (by decide +kernel) (by decide +kernel)
set_option maxRecDepth 20000 in
theorem gX4_findOpen_X2_onLine : GoodIn wsX4_findOpen (wsV RX4 135 RX2 yX2_onLine wsX2_onLine) := goodIn_app (goodIn_of _ (by decide +kernel)) ggX4_findOpen_X2_onLine
set_option maxRecDepth 20000 in
theorem ggX4_findOpen_X4_passes : GoodIn wsX4_findOpen wsX4_passes := goodIn_r _ [28, 29, 30, 31, 32, 33, 34, 35, 36, 37, 38, 39, 40, 41] (by decide +kernel) (by decide +kernel)
set_option maxRecDepth 20000 in
theorem gX4_findOpen_X4_passes : GoodIn wsX4_findOpen (wsV RX4 138 RX4 yX4_passes wsX4_passes) := goodIn_app (goodIn_of _ (by decide +kernel)) ggX4_findOpen_X4_passes
theorem dX4_findOpen_0 : decode cX4_findOpen 0 = .ok (.aload_n 0, 1) := by decide +kernel
theorem dX4_findOpen_1 : decode cX4_findOpen 1 = .ok (.getfield 31, 3) := by decide +kernel
theorem dX4_findOpen_4 : decode cX4_findOpen 4 = .ok (.iconst (-1), 1) := by decide +kernel
theorem dX4_findOpen_5 : decode cX4_findOpen 5 = .ok (.invokestatic 114, 3) := by decide +kernel
theorem dX4_findOpen_8 : decode cX4_findOpen 8 = .ok (.aload_n 0, 1) := by decide +kernel
theorem dX4_findOpen_9 : decode cX4_findOpen 9 = .ok (.getfield 31, 3) := by decide +kernel
theorem dX4_findOpen_12 : decode cX4_findOpen 12 = .ok (.iload_n 1, 1) := by decide +kernel
theorem dX4_findOpen_13 : decode cX4_findOpen 13 = .ok (.iload_n 1, 1) := by decide +kernel
theorem dX4_findOpen_14 : decode cX4_findOpen 14 = .ok (.iastore, 1) := by decide +kernel
theorem dX4_findOpen_15 : decode cX4_findOpen 15 = .ok (.aload_n 0, 1) := by decide +kernel
theorem dX4_findOpen_16 : decode cX4_findOpen 16 = .ok (.getfield 37, 3) := by decide +kernel
theorem dX4_findOpen_19 : decode cX4_findOpen 19 = .ok (.iconst 0, 1) := by decide +kernel
theorem dX4_findOpen_20 : decode cX4_findOpen 20 = .ok (.iload_n 1, 1) := by decide +kernel
theorem dX4_findOpen_21 : decode cX4_findOpen 21 = .ok (.iastore, 1) := by decide +kernel
theorem dX4_findOpen_22 : decode cX4_findOpen 22 = .ok (.iconst 1, 1) := by decide +kernel
theorem dX4_findOpen_23 : decode cX4_findOpen 23 = .ok (.istore_n 2, 1) := by decide +kernel
theorem dX4_findOpen_24 : decode cX4_findOpen 24 = .ok (.iconst 0, 1) := by decide +kernel
theorem dX4_findOpen_25 : decode cX4_findOpen 25 = .ok (.istore_n 3, 1) := by decide +kernel
theorem dX4_findOpen_26 : decode cX4_findOpen 26 = .ok (.iload_n 3, 1) := by decide +kernel
theorem dX4_findOpen_27 : decode cX4_findOpen 27 = .ok (.iload_n 2, 1) := by decide +kernel
theorem dX4_findOpen_28 : decode cX4_findOpen 28 = .ok (.if_icmp .ge 176, 3) := by decide +kernel
theorem dX4_findOpen_31 : decode cX4_findOpen 31 = .ok (.iload_n 3, 1) := by decide +kernel
theorem dX4_findOpen_32 : decode cX4_findOpen 32 = .ok (.bipush 10, 2) := by decide +kernel
theorem dX4_findOpen_34 : decode cX4_findOpen 34 = .ok (.if_icmp .ge 170, 3) := by decide +kernel
theorem dX4_findOpen_37 : decode cX4_findOpen 37 = .ok (.aload_n 0, 1) := by decide +kernel
theorem dX4_findOpen_38 : decode cX4_findOpen 38 = .ok (.getfield 37, 3) := by decide +kernel
theorem dX4_findOpen_41 : decode cX4_findOpen 41 = .ok (.iload_n 3, 1) := by decide +kernel
theorem dX4_findOpen_42 : decode cX4_findOpen 42 = .ok (.iaload, 1) := by decide +kernel
theorem dX4_findOpen_43 : decode cX4_findOpen 43 = .ok (.istore 4, 2) := by decide +kernel
theorem dX4_findOpen_45 : decode cX4_findOpen 45 = .ok (.iload 4, 2) := by decide +kernel
theorem dX4_findOpen_47 : decode cX4_findOpen 47 = .ok (.invokestatic 129, 3) := by decide +kernel
theorem dX4_findOpen_50 : decode cX4_findOpen 50 = .ok (.istore 5, 2) := by decide +kernel
theorem dX4_findOpen_52 : decode cX4_findOpen 52 = .ok (.iload 5, 2) := by decide +kernel
theorem dX4_findOpen_54 : decode cX4_findOpen 54 = .ok (.ifCond .eq 10, 3) := by decide +kernel
theorem dX4_findOpen_57 : decode cX4_findOpen 57 = .ok (.iload 4, 2) := by decide +kernel
theorem dX4_findOpen_59 : decode cX4_findOpen 59 = .ok (.iconst 5, 1) := by decide +kernel
theorem dX4_findOpen_60 : decode cX4_findOpen 60 = .ok (.isub, 1) := by decide +kernel
theorem dX4_findOpen_61 : decode cX4_findOpen 61 = .ok (.goto 5, 3) := by decide +kernel
theorem dX4_findOpen_64 : decode cX4_findOpen 64 = .ok (.iload 4, 2) := by decide +kernel
theorem dX4_findOpen_66 : decode cX4_findOpen 66 = .ok (.istore 6, 2) := by decide +kernel
theorem dX4_findOpen_68 : decode cX4_findOpen 68 = .ok (.iload 5, 2) := by decide +kernel
theorem dX4_findOpen_70 : decode cX4_findOpen 70 = .ok (.ifCond .eq 7, 3) := by decide +kernel
theorem dX4_findOpen_73 : decode cX4_findOpen 73 = .ok (.iconst 0, 1) := by decide +kernel
theorem dX4_findOpen_74 : decode cX4_findOpen 74 = .ok (.goto 4, 3) := by decide +kernel
theorem dX4_findOpen_77 : decode cX4_findOpen 77 = .ok (.iconst 5, 1) := by decide +kernel
theorem dX4_findOpen_78 : decode cX4_findOpen 78 = .ok (.istore 7, 2) := by decide +kernel
theorem dX4_findOpen_80 : decode cX4_findOpen 80 = .ok (.iconst 0, 1) := by decide +kernel
theorem dX4_findOpen_81 : decode cX4_findOpen 81 = .ok (.istore 8, 2) := by decide +kernel
theorem dX4_findOpen_83 : decode cX4_findOpen 83 = .ok (.iload 8, 2) := by decide +kernel
theorem dX4_findOpen_85 : decode cX4_findOpen 85 = .ok (.aload_n 0, 1) := by decide +kernel
theorem dX4_findOpen_86 : decode cX4_findOpen 86 = .ok (.getfield 40, 3) := by decide +kernel
theorem dX4_findOpen_89 : decode cX4_findOpen 89 = .ok (.iload 5, 2) := by decide +kernel
theorem dX4_findOpen_91 : decode cX4_findOpen 91 = .ok (.invokevirtual 132, 3) := by decide +kernel
theorem dX4_findOpen_94 : decode cX4_findOpen 94 = .ok (.if_icmp .ge 104, 3) := by decide +kernel
theorem dX4_findOpen_97 : decode cX4_findOpen 97 = .ok (.iload 7, 2) := by decide +kernel
theorem dX4_findOpen_99 : decode cX4_findOpen 99 = .ok (.iload 8, 2) := by decide +kernel
theorem dX4_findOpen_101 : decode cX4_findOpen 101 = .ok (.iadd, 1) := by decide +kernel
theorem dX4_findOpen_102 : decode cX4_findOpen 102 = .ok (.istore 9, 2) := by decide +kernel
theorem dX4_findOpen_104 : decode cX4_findOpen 104 = .ok (.aload_n 0, 1) := by decide +kernel
theorem dX4_findOpen_105 : decode cX4_findOpen 105 = .ok (.getfield 40, 3) := by decide +kernel
theorem dX4_findOpen_108 : decode cX4_findOpen 108 = .ok (.iload 5, 2) := by decide +kernel
theorem dX4_findOpen_110 : decode cX4_findOpen 110 = .ok (.iload 6, 2) := by decide +kernel
theorem dX4_findOpen_112 : decode cX4_findOpen 112 = .ok (.iload 8, 2) := by decide +kernel
theorem dX4_findOpen_114 : decode cX4_findOpen 114 = .ok (.invokevirtual 135, 3) := by decide +kernel
theorem dX4_findOpen_117 : decode cX4_findOpen 117 = .ok (.istore 10, 2) := by decide +kernel
theorem dX4_findOpen_119 : decode cX4_findOpen 119 = .ok (.aload_n 0, 1) := by decide +kernel
theorem dX4_findOpen_120 : decode cX4_findOpen 120 = .ok (.getfield 31, 3) := by decide +kernel
theorem dX4_findOpen_123 : decode cX4_findOpen 123 = .ok (.iload 9, 2) := by decide +kernel
theorem dX4_findOpen_125 : decode cX4_findOpen 125 = .ok (.iaload, 1) := by decide +kernel
theorem dX4_findOpen_126 : decode cX4_findOpen 126 = .ok (.iconst (-1), 1) := by decide +kernel
theorem dX4_findOpen_127 : decode cX4_findOpen 127 = .ok (.if_icmp .ne 65, 3) := by decide +kernel
theorem dX4_findOpen_130 : decode cX4_findOpen 130 = .ok (.iload_n 2, 1) := by decide +kernel
theorem dX4_findOpen_131 : decode cX4_findOpen 131 = .ok (.bipush 10, 2) := by decide +kernel
theorem dX4_findOpen_133 : decode cX4_findOpen 133 = .ok (.if_icmp .ge 59, 3) := by decide +kernel
theorem dX4_findOpen_136 : decode cX4_findOpen 136 = .ok (.aload_n 0, 1) := by decide +kernel
theorem dX4_findOpen_137 : decode cX4_findOpen 137 = .ok (.iload 5, 2) := by decide +kernel
theorem dX4_findOpen_139 : decode cX4_findOpen 139 = .ok (.iload 10, 2) := by decide +kernel
theorem dX4_findOpen_141 : decode cX4_findOpen 141 = .ok (.invokevirtual 138, 3) := by decide +kernel
theorem dX4_findOpen_144 : decode cX4_findOpen 144 = .ok (.ifCond .ne 6, 3) := by decide +kernel
theorem dX4_findOpen_147 : decode cX4_findOpen 147 = .ok (.goto 45, 3) := by decide +kernel
theorem dX4_findOpen_150 : decode cX4_findOpen 150 = .ok (.aload_n 0, 1) := by decide +kernel
theorem dX4_findOpen_151 : decode cX4_findOpen 151 = .ok (.getfield 31, 3) := by decide +kernel
theorem dX4_findOpen_154 : decode cX4_findOpen 154 = .ok (.iload 9, 2) := by decide +kernel
theorem dX4_findOpen_156 : decode cX4_findOpen 156 = .ok (.iload 4, 2) := by decide +kernel
theorem dX4_findOpen_158 : decode cX4_findOpen 158 = .ok (.iastore, 1) := by decide +kernel
theorem dX4_findOpen_159 : decode cX4_findOpen 159 = .ok (.aload_n 0, 1) := by decide +kernel
theorem dX4_findOpen_160 : decode cX4_findOpen 160 = .ok (.getfield 34, 3) := by decide +kernel
theorem dX4_findOpen_163 : decode cX4_findOpen 163 = .ok (.iload 9, 2) := by decide +kernel
theorem dX4_findOpen_165 : decode cX4_findOpen 165 = .ok (.iload 10, 2) := by decide +kernel
theorem dX4_findOpen_167 : decode cX4_findOpen 167 = .ok (.iastore, 1) := by decide +kernel
theorem dX4_findOpen_168 : decode cX4_findOpen 168 = .ok (.aload_n 0, 1) := by decide +kernel
theorem dX4_findOpen_169 : decode cX4_findOpen 169 = .ok (.getfield 28, 3) := by decide +kernel
theorem dX4_findOpen_172 : decode cX4_findOpen 172 = .ok (.iload 9, 2) := by decide +kernel
theorem dX4_findOpen_174 : decode cX4_findOpen 174 = .ok (.iaload, 1) := by decide +kernel
theorem dX4_findOpen_175 : decode cX4_findOpen 175 = .ok (.ifCond .le 6, 3) := by decide +kernel
theorem dX4_findOpen_178 : decode cX4_findOpen 178 = .ok (.iload 9, 2) := by decide +kernel
theorem dX4_findOpen_180 : decode cX4_findOpen 180 = .ok (.ireturn, 1) := by decide +kernel
theorem dX4_findOpen_181 : decode cX4_findOpen 181 = .ok (.aload_n 0, 1) := by decide +kernel
theorem dX4_findOpen_182 : decode cX4_findOpen 182 = .ok (.getfield 37, 3) := by decide +kernel
theorem dX4_findOpen_185 : decode cX4_findOpen 185 = .ok (.iload_n 2, 1) := by decide +kernel
theorem dX4_findOpen_186 : decode cX4_findOpen 186 = .ok (.iinc 2 1, 3) := by decide +kernel
theorem dX4_findOpen_189 : decode cX4_findOpen 189 = .ok (.iload 9, 2) := by decide +kernel
theorem dX4_findOpen_191 : decode cX4_findOpen 191 = .ok (.iastore, 1) := by decide +kernel
theorem dX4_findOpen_192 : decode cX4_findOpen 192 = .ok (.iinc 8 1, 3) := by decide +kernel
theorem dX4_findOpen_195 : decode cX4_findOpen 195 = .ok (.goto (-112), 3) := by decide +kernel
theorem dX4_findOpen_198 : decode cX4_findOpen 198 = .ok (.iinc 3 1, 3) := by decide +kernel
theorem dX4_findOpen_201 : decode cX4_findOpen 201 = .ok (.goto (-175), 3) := by decide +kernel
theorem dX4_findOpen_204 : decode cX4_findOpen 204 = .ok (.iconst (-1), 1) := by decide +kernel
theorem dX4_findOpen_205 : decode cX4_findOpen 205 = .ok (.ireturn, 1) := by decide +kernel
theorem dX4_passes_0 : decode cX4_passes 0 = .ok (.iload_n 1, 1) := by decide +kernel
theorem dX4_passes_1 : decode cX4_passes 1 = .ok (.ifCond .eq 26, 3) := by decide +kernel
theorem dX4_passes_4 : decode cX4_passes 4 = .ok (.aload_n 0, 1) := by decide +kernel
theorem dX4_passes_5 : decode cX4_passes 5 = .ok (.getfield 18, 3) := by decide +kernel
theorem dX4_passes_8 : decode cX4_passes 8 = .ok (.iload_n 2, 1) := by decide +kernel
theorem dX4_passes_9 : decode cX4_passes 9 = .ok (.iaload, 1) := by decide +kernel
theorem dX4_passes_10 : decode cX4_passes 10 = .ok (.aload_n 0, 1) := by decide +kernel
theorem dX4_passes_11 : decode cX4_passes 11 = .ok (.getfield 22, 3) := by decide +kernel
theorem dX4_passes_14 : decode cX4_passes 14 = .ok (.iload_n 2, 1) := by decide +kernel
theorem dX4_passes_15 : decode cX4_passes 15 = .ok (.iaload, 1) := by decide +kernel
theorem dX4_passes_16 : decode cX4_passes 16 = .ok (.if_icmp .le 7, 3) := by decide +kernel
theorem dX4_passes_19 : decode cX4_passes 19 = .ok (.iconst 1, 1) := by decide +kernel
theorem dX4_passes_20 : decode cX4_passes 20 = .ok (.goto 27, 3) := by decide +kernel
theorem dX4_passes_23 : decode cX4_passes 23 = .ok (.iconst 0, 1) := by decide +kernel
theorem dX4_passes_24 : decode cX4_passes 24 = .ok (.goto 23, 3) := by decide +kernel
theorem dX4_passes_27 : decode cX4_passes 27 = .ok (.aload_n 0, 1) := by decide +kernel
theorem dX4_passes_28 : decode cX4_passes 28 = .ok (.getfield 18, 3) := by decide +kernel
theorem dX4_passes_31 : decode cX4_passes 31 = .ok (.iload_n 2, 1) := by decide +kernel
theorem dX4_passes_32 : decode cX4_passes 32 = .ok (.iaload, 1) := by decide +kernel
theorem dX4_passes_33 : decode cX4_passes 33 = .ok (.aload_n 0, 1) := by decide +kernel
theorem dX4_passes_34 : decode cX4_passes 34 = .ok (.getfield 25, 3) := by decide +kernel
theorem dX4_passes_37 : decode cX4_passes 37 = .ok (.iload_n 2, 1) := by decide +kernel
theorem dX4_passes_38 : decode cX4_passes 38 = .ok (.iaload, 1) := by decide +kernel
theorem dX4_passes_39 : decode cX4_passes 39 = .ok (.if_icmp .ge 7, 3) := by decide +kernel
theorem dX4_passes_42 : decode cX4_passes 42 = .ok (.iconst 1, 1) := by decide +kernel
theorem dX4_passes_43 : decode cX4_passes 43 = .ok (.goto 4, 3) := by decide +kernel
theorem dX4_passes_46 : decode cX4_passes 46 = .ok (.iconst 0, 1) := by decide +kernel
theorem dX4_passes_47 : decode cX4_passes 47 = .ok (.ireturn, 1) := by decide +kernel
theorem dX4_isColumn_0 : decode cX4_isColumn 0 = .ok (.iload_n 0, 1) := by decide +kernel
theorem dX4_isColumn_1 : decode cX4_isColumn 1 = .ok (.iconst 5, 1) := by decide +kernel
theorem dX4_isColumn_2 : decode cX4_isColumn 2 = .ok (.if_icmp .lt 7, 3) := by decide +kernel
theorem dX4_isColumn_5 : decode cX4_isColumn 5 = .ok (.iconst 1, 1) := by decide +kernel
theorem dX4_isColumn_6 : decode cX4_isColumn 6 = .ok (.goto 4, 3) := by decide +kernel
theorem dX4_isColumn_9 : decode cX4_isColumn 9 = .ok (.iconst 0, 1) := by decide +kernel
theorem dX4_isColumn_10 : decode cX4_isColumn 10 = .ok (.ireturn, 1) := by decide +kernel
