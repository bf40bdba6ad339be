theorem dX7_init_0 : decode cX7_init 0 = .ok (.aload_n 0, 1) := by decide +kernel
theorem dX7_init_1 : decode cX7_init 1 = .ok (.invokespecial 3, 3) := by decide +kernel
theorem dX7_init_4 : decode cX7_init 4 = .ok (.aload_n 0, 1) := by decide +kernel
theorem dX7_init_5 : decode cX7_init 5 = .ok (.bipush 25, 2) := by decide +kernel
theorem dX7_init_7 : decode cX7_init 7 = .ok (.newarray .int, 2) := by decide +kernel
theorem dX7_init_9 : decode cX7_init 9 = .ok (.putfield 9, 3) := by decide +kernel
theorem dX7_init_12 : decode cX7_init 12 = .ok (.aload_n 0, 1) := by decide +kernel
theorem dX7_init_13 : decode cX7_init 13 = .ok (.bipush 25, 2) := by decide +kernel
theorem dX7_init_15 : decode cX7_init 15 = .ok (.newarray .int, 2) := by decide +kernel
theorem dX7_init_17 : decode cX7_init 17 = .ok (.putfield 15, 3) := by decide +kernel
theorem dX7_init_20 : decode cX7_init 20 = .ok (.aload_n 0, 1) := by decide +kernel
theorem dX7_init_21 : decode cX7_init 21 = .ok (.bipush 25, 2) := by decide +kernel
theorem dX7_init_23 : decode cX7_init 23 = .ok (.newarray .int, 2) := by decide +kernel
theorem dX7_init_25 : decode cX7_init 25 = .ok (.putfield 18, 3) := by decide +kernel
theorem dX7_init_28 : decode cX7_init 28 = .ok (.aload_n 0, 1) := by decide +kernel
theorem dX7_init_29 : decode cX7_init 29 = .ok (.aload_n 1, 1) := by decide +kernel
theorem dX7_init_30 : decode cX7_init 30 = .ok (.putfield 21, 3) := by decide +kernel
theorem dX7_init_33 : decode cX7_init 33 = .ok (.return_, 1) := by decide +kernel
theorem dX7_alongColumn_0 : decode cX7_alongColumn 0 = .ok (.iload_n 0, 1) := by decide +kernel
theorem dX7_alongColumn_1 : decode cX7_alongColumn 1 = .ok (.iconst 1, 1) := by decide +kernel
theorem dX7_alongColumn_2 : decode cX7_alongColumn 2 = .ok (.if_icmp .eq 8, 3) := by decide +kernel
theorem dX7_alongColumn_5 : decode cX7_alongColumn 5 = .ok (.iload_n 0, 1) := by decide +kernel
theorem dX7_alongColumn_6 : decode cX7_alongColumn 6 = .ok (.iconst 3, 1) := by decide +kernel
theorem dX7_alongColumn_7 : decode cX7_alongColumn 7 = .ok (.if_icmp .ne 7, 3) := by decide +kernel
theorem dX7_alongColumn_10 : decode cX7_alongColumn 10 = .ok (.iconst 1, 1) := by decide +kernel
theorem dX7_alongColumn_11 : decode cX7_alongColumn 11 = .ok (.goto 4, 3) := by decide +kernel
theorem dX7_alongColumn_14 : decode cX7_alongColumn 14 = .ok (.iconst 0, 1) := by decide +kernel
theorem dX7_alongColumn_15 : decode cX7_alongColumn 15 = .ok (.ireturn, 1) := by decide +kernel
set_option maxRecDepth 20000 in
theorem ggX7_tallest_X2_length : GoodIn wsX7_tallest wsX2_length := goodIn_r _ [10, 11, 12, 21, 22, 23, 24, 25] (by decide +kernel) (by decide +kernel)
set_option maxRecDepth 20000 in
theorem gX7_tallest_X2_length : GoodIn wsX7_tallest (wsV RX7 25 RX2 yX2_length wsX2_length) := goodIn_app (goodIn_of _ (by decide +kernel)) ggX7_tallest_X2_length
set_option maxRecDepth 20000 in
theorem ggX7_tallest_X2_onLine : GoodIn wsX7_tallest wsX2_onLine := goodIn_r _ [16, 12, 21, 22, 23, 24, 25] (by decide +kernel) (by decide +kernel)
set_option maxRecDepth 20000 in
theorem gX7_tallest_X2_onLine : GoodIn wsX7_tallest (wsV RX7 31 RX2 yX2_onLine wsX2_onLine) := goodIn_app (goodIn_of _ (by decide +kernel)) ggX7_tallest_X2_onLine
theorem dX7_tallest_0 : decode cX7_tallest 0 = .ok (.iconst 0, 1) := by decide +kernel
theorem dX7_tallest_1 : decode cX7_tallest 1 = .ok (.istore 4, 2) := by decide +kernel
theorem dX7_tallest_3 : decode cX7_tallest 3 = .ok (.iconst 0, 1) := by decide +kernel
theorem dX7_tallest_4 : decode cX7_tallest 4 = .ok (.istore 5, 2) := by decide +kernel
theorem dX7_tallest_6 : decode cX7_tallest 6 = .ok (.iload 5, 2) := by decide +kernel
theorem dX7_tallest_8 : decode cX7_tallest 8 = .ok (.aload_n 0, 1) := by decide +kernel
theorem dX7_tallest_9 : decode cX7_tallest 9 = .ok (.getfield 21, 3) := by decide +kernel
theorem dX7_tallest_12 : decode cX7_tallest 12 = .ok (.iload_n 2, 1) := by decide +kernel
theorem dX7_tallest_13 : decode cX7_tallest 13 = .ok (.invokevirtual 25, 3) := by decide +kernel
theorem dX7_tallest_16 : decode cX7_tallest 16 = .ok (.if_icmp .ge 29, 3) := by decide +kernel
theorem dX7_tallest_19 : decode cX7_tallest 19 = .ok (.iload 4, 2) := by decide +kernel
theorem dX7_tallest_21 : decode cX7_tallest 21 = .ok (.aload_n 1, 1) := by decide +kernel
theorem dX7_tallest_22 : decode cX7_tallest 22 = .ok (.aload_n 0, 1) := by decide +kernel
theorem dX7_tallest_23 : decode cX7_tallest 23 = .ok (.getfield 21, 3) := by decide +kernel
theorem dX7_tallest_26 : decode cX7_tallest 26 = .ok (.iload_n 2, 1) := by decide +kernel
theorem dX7_tallest_27 : decode cX7_tallest 27 = .ok (.iload_n 3, 1) := by decide +kernel
theorem dX7_tallest_28 : decode cX7_tallest 28 = .ok (.iload 5, 2) := by decide +kernel
theorem dX7_tallest_30 : decode cX7_tallest 30 = .ok (.invokevirtual 31, 3) := by decide +kernel
theorem dX7_tallest_33 : decode cX7_tallest 33 = .ok (.iaload, 1) := by decide +kernel
theorem dX7_tallest_34 : decode cX7_tallest 34 = .ok (.invokestatic 35, 3) := by decide +kernel
theorem dX7_tallest_37 : decode cX7_tallest 37 = .ok (.istore 4, 2) := by decide +kernel
theorem dX7_tallest_39 : decode cX7_tallest 39 = .ok (.iinc 5 1, 3) := by decide +kernel
theorem dX7_tallest_42 : decode cX7_tallest 42 = .ok (.goto (-36), 3) := by decide +kernel
theorem dX7_tallest_45 : decode cX7_tallest 45 = .ok (.iload 4, 2) := by decide +kernel
theorem dX7_tallest_47 : decode cX7_tallest 47 = .ok (.ireturn, 1) := by decide +kernel
set_option maxRecDepth 20000 in
theorem ggX7_towersSeen_X7_alongColumn : GoodIn wsX7_towersSeen wsX7_alongColumn := goodIn_r _ [5] (by decide +kernel) (by decide +kernel)
set_option maxRecDepth 20000 in
theorem gX7_towersSeen_X7_alongColumn : GoodIn wsX7_towersSeen (va_wsS RX7 41 yX7_alongColumn wsX7_alongColumn) := goodIn_app (goodIn_of _ (by decide +kernel)) ggX7_towersSeen_X7_alongColumn
set_option maxRecDepth 20000 in
theorem ggX7_towersSeen_X2_length : GoodIn wsX7_towersSeen wsX2_length := goodIn_r _ [10, 11, 12, 21, 22, 23, 24, 25] (by decide +kernel) (by decide +kernel)
set_option maxRecDepth 20000 in
theorem gX7_towersSeen_X2_length : GoodIn wsX7_towersSeen (wsV RX7 25 RX2 yX2_length wsX2_length) := goodIn_app (goodIn_of _ (by decide +kernel)) ggX7_towersSeen_X2_length
set_option maxRecDepth 20000 in
theorem ggX7_towersSeen_X2_onLine : GoodIn wsX7_towersSeen wsX2_onLine := goodIn_r _ [16, 12, 21, 22, 23, 24, 25] (by decide +kernel) (by decide +kernel)
set_option maxRecDepth 20000 in
theorem gX7_towersSeen_X2_onLine : GoodIn wsX7_towersSeen (wsV RX7 31 RX2 yX2_onLine wsX2_onLine) := goodIn_app (goodIn_of _ (by decide +kernel)) ggX7_towersSeen_X2_onLine
theorem dX7_towersSeen_0 : decode cX7_towersSeen 0 = .ok (.iload_n 2, 1) := by decide +kernel
theorem dX7_towersSeen_1 : decode cX7_towersSeen 1 = .ok (.invokestatic 41, 3) := by decide +kernel
theorem dX7_towersSeen_4 : decode cX7_towersSeen 4 = .ok (.istore 4, 2) := by decide +kernel
theorem dX7_towersSeen_6 : decode cX7_towersSeen 6 = .ok (.aload_n 0, 1) := by decide +kernel
theorem dX7_towersSeen_7 : decode cX7_towersSeen 7 = .ok (.getfield 21, 3) := by decide +kernel
theorem dX7_towersSeen_10 : decode cX7_towersSeen 10 = .ok (.iload 4, 2) := by decide +kernel
theorem dX7_towersSeen_12 : decode cX7_towersSeen 12 = .ok (.invokevirtual 25, 3) := by decide +kernel
theorem dX7_towersSeen_15 : decode cX7_towersSeen 15 = .ok (.istore 5, 2) := by decide +kernel
theorem dX7_towersSeen_17 : decode cX7_towersSeen 17 = .ok (.iconst 0, 1) := by decide +kernel
theorem dX7_towersSeen_18 : decode cX7_towersSeen 18 = .ok (.istore 6, 2) := by decide +kernel
theorem dX7_towersSeen_20 : decode cX7_towersSeen 20 = .ok (.iconst 0, 1) := by decide +kernel
theorem dX7_towersSeen_21 : decode cX7_towersSeen 21 = .ok (.istore 7, 2) := by decide +kernel
theorem dX7_towersSeen_23 : decode cX7_towersSeen 23 = .ok (.iconst 0, 1) := by decide +kernel
theorem dX7_towersSeen_24 : decode cX7_towersSeen 24 = .ok (.istore 8, 2) := by decide +kernel
theorem dX7_towersSeen_26 : decode cX7_towersSeen 26 = .ok (.iload 8, 2) := by decide +kernel
theorem dX7_towersSeen_28 : decode cX7_towersSeen 28 = .ok (.iload 5, 2) := by decide +kernel
theorem dX7_towersSeen_30 : decode cX7_towersSeen 30 = .ok (.if_icmp .ge 58, 3) := by decide +kernel
theorem dX7_towersSeen_33 : decode cX7_towersSeen 33 = .ok (.iload_n 2, 1) := by decide +kernel
theorem dX7_towersSeen_34 : decode cX7_towersSeen 34 = .ok (.iconst 2, 1) := by decide +kernel
theorem dX7_towersSeen_35 : decode cX7_towersSeen 35 = .ok (.if_icmp .ge 8, 3) := by decide +kernel
theorem dX7_towersSeen_38 : decode cX7_towersSeen 38 = .ok (.iload 8, 2) := by decide +kernel
theorem dX7_towersSeen_40 : decode cX7_towersSeen 40 = .ok (.goto 10, 3) := by decide +kernel
theorem dX7_towersSeen_43 : decode cX7_towersSeen 43 = .ok (.iload 5, 2) := by decide +kernel
theorem dX7_towersSeen_45 : decode cX7_towersSeen 45 = .ok (.iconst 1, 1) := by decide +kernel
theorem dX7_towersSeen_46 : decode cX7_towersSeen 46 = .ok (.isub, 1) := by decide +kernel
theorem dX7_towersSeen_47 : decode cX7_towersSeen 47 = .ok (.iload 8, 2) := by decide +kernel
theorem dX7_towersSeen_49 : decode cX7_towersSeen 49 = .ok (.isub, 1) := by decide +kernel
theorem dX7_towersSeen_50 : decode cX7_towersSeen 50 = .ok (.istore 9, 2) := by decide +kernel
theorem dX7_towersSeen_52 : decode cX7_towersSeen 52 = .ok (.aload_n 1, 1) := by decide +kernel
theorem dX7_towersSeen_53 : decode cX7_towersSeen 53 = .ok (.aload_n 0, 1) := by decide +kernel
theorem dX7_towersSeen_54 : decode cX7_towersSeen 54 = .ok (.getfield 21, 3) := by decide +kernel
theorem dX7_towersSeen_57 : decode cX7_towersSeen 57 = .ok (.iload 4, 2) := by decide +kernel
theorem dX7_towersSeen_59 : decode cX7_towersSeen 59 = .ok (.iload_n 3, 1) := by decide +kernel
theorem dX7_towersSeen_60 : decode cX7_towersSeen 60 = .ok (.iload 9, 2) := by decide +kernel
theorem dX7_towersSeen_62 : decode cX7_towersSeen 62 = .ok (.invokevirtual 31, 3) := by decide +kernel
theorem dX7_towersSeen_65 : decode cX7_towersSeen 65 = .ok (.iaload, 1) := by decide +kernel
theorem dX7_towersSeen_66 : decode cX7_towersSeen 66 = .ok (.istore 10, 2) := by decide +kernel
theorem dX7_towersSeen_68 : decode cX7_towersSeen 68 = .ok (.iload 10, 2) := by decide +kernel
theorem dX7_towersSeen_70 : decode cX7_towersSeen 70 = .ok (.iload 7, 2) := by decide +kernel
theorem dX7_towersSeen_72 : decode cX7_towersSeen 72 = .ok (.if_icmp .le 10, 3) := by decide +kernel
theorem dX7_towersSeen_75 : decode cX7_towersSeen 75 = .ok (.iinc 6 1, 3) := by decide +kernel
theorem dX7_towersSeen_78 : decode cX7_towersSeen 78 = .ok (.iload 10, 2) := by decide +kernel
theorem dX7_towersSeen_80 : decode cX7_towersSeen 80 = .ok (.istore 7, 2) := by decide +kernel
theorem dX7_towersSeen_82 : decode cX7_towersSeen 82 = .ok (.iinc 8 1, 3) := by decide +kernel
theorem dX7_towersSeen_85 : decode cX7_towersSeen 85 = .ok (.goto (-59), 3) := by decide +kernel
theorem dX7_towersSeen_88 : decode cX7_towersSeen 88 = .ok (.iload 6, 2) := by decide +kernel
theorem dX7_towersSeen_90 : decode cX7_towersSeen 90 = .ok (.ireturn, 1) := by decide +kernel
set_option maxRecDepth 20000 in
theorem ggX7_openFaces_X2_cells : GoodIn wsX7_openFaces wsX2_cells := goodIn_r _ [10, 11, 12, 27, 28, 29, 30, 31] (by decide +kernel) (by decide +kernel)
set_option maxRecDepth 20000 in
theorem gX7_openFaces_X2_cells : GoodIn wsX7_openFaces (wsV RX7 45 RX2 yX2_cells wsX2_cells) := goodIn_app (goodIn_of _ (by decide +kernel)) ggX7_openFaces_X2_cells
set_option maxRecDepth 20000 in
theorem ggX7_openFaces_X7_valueBeside : GoodIn wsX7_openFaces wsX7_valueBeside := goodIn_r _ [17, 1, 18, 19, 20, 9, 21, 22, 23, 24, 25, 26, 27, 28, 29, 30, 31] (by decide +kernel) (by decide +kernel)
set_option maxRecDepth 20000 in
theorem gX7_openFaces_X7_valueBeside : GoodIn wsX7_openFaces (wsV RX7 49 RX7 yX7_valueBeside wsX7_valueBeside) := goodIn_app (goodIn_of _ (by decide +kernel)) ggX7_openFaces_X7_valueBeside
theorem dX7_openFaces_0 : decode cX7_openFaces 0 = .ok (.iconst 0, 1) := by decide +kernel
theorem dX7_openFaces_1 : decode cX7_openFaces 1 = .ok (.istore_n 2, 1) := by decide +kernel
theorem dX7_openFaces_2 : decode cX7_openFaces 2 = .ok (.iconst 0, 1) := by decide +kernel
theorem dX7_openFaces_3 : decode cX7_openFaces 3 = .ok (.istore_n 3, 1) := by decide +kernel
theorem dX7_openFaces_4 : decode cX7_openFaces 4 = .ok (.iload_n 3, 1) := by decide +kernel
theorem dX7_openFaces_5 : decode cX7_openFaces 5 = .ok (.aload_n 0, 1) := by decide +kernel
theorem dX7_openFaces_6 : decode cX7_openFaces 6 = .ok (.getfield 21, 3) := by decide +kernel
theorem dX7_openFaces_9 : decode cX7_openFaces 9 = .ok (.invokevirtual 45, 3) := by decide +kernel
theorem dX7_openFaces_12 : decode cX7_openFaces 12 = .ok (.if_icmp .ge 52, 3) := by decide +kernel
theorem dX7_openFaces_15 : decode cX7_openFaces 15 = .ok (.aload_n 1, 1) := by decide +kernel
theorem dX7_openFaces_16 : decode cX7_openFaces 16 = .ok (.iload_n 3, 1) := by decide +kernel
theorem dX7_openFaces_17 : decode cX7_openFaces 17 = .ok (.iaload, 1) := by decide +kernel
theorem dX7_openFaces_18 : decode cX7_openFaces 18 = .ok (.ifCond .le 6, 3) := by decide +kernel
theorem dX7_openFaces_21 : decode cX7_openFaces 21 = .ok (.iinc 2 1, 3) := by decide +kernel
theorem dX7_openFaces_24 : decode cX7_openFaces 24 = .ok (.iconst 0, 1) := by decide +kernel
theorem dX7_openFaces_25 : decode cX7_openFaces 25 = .ok (.istore 4, 2) := by decide +kernel
theorem dX7_openFaces_27 : decode cX7_openFaces 27 = .ok (.iload 4, 2) := by decide +kernel
theorem dX7_openFaces_29 : decode cX7_openFaces 29 = .ok (.iconst 4, 1) := by decide +kernel
theorem dX7_openFaces_30 : decode cX7_openFaces 30 = .ok (.if_icmp .ge 28, 3) := by decide +kernel
theorem dX7_openFaces_33 : decode cX7_openFaces 33 = .ok (.iload_n 2, 1) := by decide +kernel
theorem dX7_openFaces_34 : decode cX7_openFaces 34 = .ok (.iconst 0, 1) := by decide +kernel
theorem dX7_openFaces_35 : decode cX7_openFaces 35 = .ok (.aload_n 1, 1) := by decide +kernel
theorem dX7_openFaces_36 : decode cX7_openFaces 36 = .ok (.iload_n 3, 1) := by decide +kernel
theorem dX7_openFaces_37 : decode cX7_openFaces 37 = .ok (.iaload, 1) := by decide +kernel
theorem dX7_openFaces_38 : decode cX7_openFaces 38 = .ok (.aload_n 0, 1) := by decide +kernel
theorem dX7_openFaces_39 : decode cX7_openFaces 39 = .ok (.aload_n 1, 1) := by decide +kernel
theorem dX7_openFaces_40 : decode cX7_openFaces 40 = .ok (.iload_n 3, 1) := by decide +kernel
theorem dX7_openFaces_41 : decode cX7_openFaces 41 = .ok (.iload 4, 2) := by decide +kernel
theorem dX7_openFaces_43 : decode cX7_openFaces 43 = .ok (.invokevirtual 49, 3) := by decide +kernel
theorem dX7_openFaces_46 : decode cX7_openFaces 46 = .ok (.isub, 1) := by decide +kernel
theorem dX7_openFaces_47 : decode cX7_openFaces 47 = .ok (.invokestatic 35, 3) := by decide +kernel
theorem dX7_openFaces_50 : decode cX7_openFaces 50 = .ok (.iadd, 1) := by decide +kernel
theorem dX7_openFaces_51 : decode cX7_openFaces 51 = .ok (.istore_n 2, 1) := by decide +kernel
theorem dX7_openFaces_52 : decode cX7_openFaces 52 = .ok (.iinc 4 1, 3) := by decide +kernel
theorem dX7_openFaces_55 : decode cX7_openFaces 55 = .ok (.goto (-28), 3) := by decide +kernel
theorem dX7_openFaces_58 : decode cX7_openFaces 58 = .ok (.iinc 3 1, 3) := by decide +kernel
theorem dX7_openFaces_61 : decode cX7_openFaces 61 = .ok (.goto (-57), 3) := by decide +kernel
theorem dX7_openFaces_64 : decode cX7_openFaces 64 = .ok (.iload_n 2, 1) := by decide +kernel
theorem dX7_openFaces_65 : decode cX7_openFaces 65 = .ok (.ireturn, 1) := by decide +kernel
set_option maxRecDepth 20000 in
theorem ggX7_valueBeside_X2_beside : GoodIn wsX7_valueBeside wsX2_beside := goodIn_r _ [6, 7, 12, 13, 14, 15, 16] (by decide +kernel) (by decide +kernel)
set_option maxRecDepth 20000 in
theorem gX7_valueBeside_X2_beside : GoodIn wsX7_valueBeside (wsV RX7 53 RX2 yX2_beside wsX2_beside) := goodIn_app (goodIn_of _ (by decide +kernel)) ggX7_valueBeside_X2_beside
theorem dX7_valueBeside_0 : decode cX7_valueBeside 0 = .ok (.aload_n 0, 1) := by decide +kernel
theorem dX7_valueBeside_1 : decode cX7_valueBeside 1 = .ok (.getfield 21, 3) := by decide +kernel
theorem dX7_valueBeside_4 : decode cX7_valueBeside 4 = .ok (.iload_n 2, 1) := by decide +kernel
theorem dX7_valueBeside_5 : decode cX7_valueBeside 5 = .ok (.iload_n 3, 1) := by decide +kernel
theorem dX7_valueBeside_6 : decode cX7_valueBeside 6 = .ok (.invokevirtual 53, 3) := by decide +kernel
theorem dX7_valueBeside_9 : decode cX7_valueBeside 9 = .ok (.istore 4, 2) := by decide +kernel
theorem dX7_valueBeside_11 : decode cX7_valueBeside 11 = .ok (.iload 4, 2) := by decide +kernel
theorem dX7_valueBeside_13 : decode cX7_valueBeside 13 = .ok (.iconst (-1), 1) := by decide +kernel
theorem dX7_valueBeside_14 : decode cX7_valueBeside 14 = .ok (.if_icmp .ne 7, 3) := by decide +kernel
theorem dX7_valueBeside_17 : decode cX7_valueBeside 17 = .ok (.iconst 0, 1) := by decide +kernel
theorem dX7_valueBeside_18 : decode cX7_valueBeside 18 = .ok (.goto 7, 3) := by decide +kernel
theorem dX7_valueBeside_21 : decode cX7_valueBeside 21 = .ok (.aload_n 1, 1) := by decide +kernel
theorem dX7_valueBeside_22 : decode cX7_valueBeside 22 = .ok (.iload 4, 2) := by decide +kernel
theorem dX7_valueBeside_24 : decode cX7_valueBeside 24 = .ok (.iaload, 1) := by decide +kernel
theorem dX7_valueBeside_25 : decode cX7_valueBeside 25 = .ok (.ireturn, 1) := by decide +kernel
set_option maxRecDepth 20000 in
theorem ggX7_layerCells_X2_cells : GoodIn wsX7_layerCells wsX2_cells := goodIn_r _ [6, 7, 8, 13, 14, 15, 16, 17] (by decide +kernel) (by decide +kernel)
set_option maxRecDepth 20000 in
theorem gX7_layerCells_X2_cells : GoodIn wsX7_layerCells (wsV RX7 45 RX2 yX2_cells wsX2_cells) := goodIn_app (goodIn_of _ (by decide +kernel)) ggX7_layerCells_X2_cells
theorem dX7_layerCells_0 : decode cX7_layerCells 0 = .ok (.iconst 0, 1) := by decide +kernel
theorem dX7_layerCells_1 : decode cX7_layerCells 1 = .ok (.istore_n 3, 1) := by decide +kernel
theorem dX7_layerCells_2 : decode cX7_layerCells 2 = .ok (.iconst 0, 1) := by decide +kernel
theorem dX7_layerCells_3 : decode cX7_layerCells 3 = .ok (.istore 4, 2) := by decide +kernel
theorem dX7_layerCells_5 : decode cX7_layerCells 5 = .ok (.iload 4, 2) := by decide +kernel
theorem dX7_layerCells_7 : decode cX7_layerCells 7 = .ok (.aload_n 0, 1) := by decide +kernel
theorem dX7_layerCells_8 : decode cX7_layerCells 8 = .ok (.getfield 21, 3) := by decide +kernel
theorem dX7_layerCells_11 : decode cX7_layerCells 11 = .ok (.invokevirtual 45, 3) := by decide +kernel
theorem dX7_layerCells_14 : decode cX7_layerCells 14 = .ok (.if_icmp .ge 20, 3) := by decide +kernel
theorem dX7_layerCells_17 : decode cX7_layerCells 17 = .ok (.aload_n 1, 1) := by decide +kernel
theorem dX7_layerCells_18 : decode cX7_layerCells 18 = .ok (.iload 4, 2) := by decide +kernel
theorem dX7_layerCells_20 : decode cX7_layerCells 20 = .ok (.iaload, 1) := by decide +kernel
theorem dX7_layerCells_21 : decode cX7_layerCells 21 = .ok (.iload_n 2, 1) := by decide +kernel
theorem dX7_layerCells_22 : decode cX7_layerCells 22 = .ok (.if_icmp .lt 6, 3) := by decide +kernel
theorem dX7_layerCells_25 : decode cX7_layerCells 25 = .ok (.iinc 3 1, 3) := by decide +kernel
theorem dX7_layerCells_28 : decode cX7_layerCells 28 = .ok (.iinc 4 1, 3) := by decide +kernel
theorem dX7_layerCells_31 : decode cX7_layerCells 31 = .ok (.goto (-26), 3) := by decide +kernel
theorem dX7_layerCells_34 : decode cX7_layerCells 34 = .ok (.iload_n 3, 1) := by decide +kernel
theorem dX7_layerCells_35 : decode cX7_layerCells 35 = .ok (.ireturn, 1) := by decide +kernel
set_option maxRecDepth 20000 in
theorem ggX7_layerParts_J7_fill_53178 : GoodIn wsX7_layerParts wsJ7_fill_53178 := goodIn_r _ [6] (by decide +kernel) (by decide +kernel)
set_option maxRecDepth 20000 in
theorem gX7_layerParts_J7_fill_53178 : GoodIn wsX7_layerParts (va_wsS RX7 56 yJ7_fill_53178 wsJ7_fill_53178) := goodIn_app (goodIn_of _ (by decide +kernel)) ggX7_layerParts_J7_fill_53178
set_option maxRecDepth 20000 in
theorem ggX7_layerParts_X2_cells : GoodIn wsX7_layerParts wsX2_cells := goodIn_r _ [11, 12, 13, 29, 30, 31, 32, 33] (by decide +kernel) (by decide +kernel)
set_option maxRecDepth 20000 in
theorem gX7_layerParts_X2_cells : GoodIn wsX7_layerParts (wsV RX7 45 RX2 yX2_cells wsX2_cells) := goodIn_app (goodIn_of _ (by decide +kernel)) ggX7_layerParts_X2_cells
set_option maxRecDepth 20000 in
theorem ggX7_layerParts_X7_markPart : GoodIn wsX7_layerParts wsX7_markPart := goodIn_r _ [18, 19, 1, 2, 20, 21, 22, 10, 23, 24, 25, 26, 27, 28, 29, 30, 31, 32, 33] (by decide +kernel) (by decide +kernel)
set_option maxRecDepth 20000 in
theorem gX7_layerParts_X7_markPart : GoodIn wsX7_layerParts (wsV RX7 62 RX7 yX7_markPart wsX7_markPart) := goodIn_app (goodIn_of _ (by decide +kernel)) ggX7_layerParts_X7_markPart
theorem dX7_layerParts_0 : decode cX7_layerParts 0 = .ok (.aload_n 0, 1) := by decide +kernel
theorem dX7_layerParts_1 : decode cX7_layerParts 1 = .ok (.getfield 15, 3) := by decide +kernel
theorem dX7_layerParts_4 : decode cX7_layerParts 4 = .ok (.iconst 0, 1) := by decide +kernel
theorem dX7_layerParts_5 : decode cX7_layerParts 5 = .ok (.invokestatic 56, 3) := by decide +kernel
theorem dX7_layerParts_8 : decode cX7_layerParts 8 = .ok (.iconst 0, 1) := by decide +kernel
theorem dX7_layerParts_9 : decode cX7_layerParts 9 = .ok (.istore_n 3, 1) := by decide +kernel
theorem dX7_layerParts_10 : decode cX7_layerParts 10 = .ok (.iconst 0, 1) := by decide +kernel
theorem dX7_layerParts_11 : decode cX7_layerParts 11 = .ok (.istore 4, 2) := by decide +kernel
theorem dX7_layerParts_13 : decode cX7_layerParts 13 = .ok (.iload 4, 2) := by decide +kernel
theorem dX7_layerParts_15 : decode cX7_layerParts 15 = .ok (.aload_n 0, 1) := by decide +kernel
theorem dX7_layerParts_16 : decode cX7_layerParts 16 = .ok (.getfield 21, 3) := by decide +kernel
theorem dX7_layerParts_19 : decode cX7_layerParts 19 = .ok (.invokevirtual 45, 3) := by decide +kernel
theorem dX7_layerParts_22 : decode cX7_layerParts 22 = .ok (.if_icmp .ge 39, 3) := by decide +kernel
theorem dX7_layerParts_25 : decode cX7_layerParts 25 = .ok (.aload_n 1, 1) := by decide +kernel
theorem dX7_layerParts_26 : decode cX7_layerParts 26 = .ok (.iload 4, 2) := by decide +kernel
theorem dX7_layerParts_28 : decode cX7_layerParts 28 = .ok (.iaload, 1) := by decide +kernel
theorem dX7_layerParts_29 : decode cX7_layerParts 29 = .ok (.iload_n 2, 1) := by decide +kernel
theorem dX7_layerParts_30 : decode cX7_layerParts 30 = .ok (.if_icmp .lt 25, 3) := by decide +kernel
theorem dX7_layerParts_33 : decode cX7_layerParts 33 = .ok (.aload_n 0, 1) := by decide +kernel
theorem dX7_layerParts_34 : decode cX7_layerParts 34 = .ok (.getfield 15, 3) := by decide +kernel
theorem dX7_layerParts_37 : decode cX7_layerParts 37 = .ok (.iload 4, 2) := by decide +kernel
theorem dX7_layerParts_39 : decode cX7_layerParts 39 = .ok (.iaload, 1) := by decide +kernel
theorem dX7_layerParts_40 : decode cX7_layerParts 40 = .ok (.ifCond .ne 15, 3) := by decide +kernel
theorem dX7_layerParts_43 : decode cX7_layerParts 43 = .ok (.iinc 3 1, 3) := by decide +kernel
theorem dX7_layerParts_46 : decode cX7_layerParts 46 = .ok (.aload_n 0, 1) := by decide +kernel
theorem dX7_layerParts_47 : decode cX7_layerParts 47 = .ok (.aload_n 1, 1) := by decide +kernel
theorem dX7_layerParts_48 : decode cX7_layerParts 48 = .ok (.iload_n 2, 1) := by decide +kernel
theorem dX7_layerParts_49 : decode cX7_layerParts 49 = .ok (.iload 4, 2) := by decide +kernel
theorem dX7_layerParts_51 : decode cX7_layerParts 51 = .ok (.iload_n 3, 1) := by decide +kernel
theorem dX7_layerParts_52 : decode cX7_layerParts 52 = .ok (.invokevirtual 62, 3) := by decide +kernel
theorem dX7_layerParts_55 : decode cX7_layerParts 55 = .ok (.iinc 4 1, 3) := by decide +kernel
theorem dX7_layerParts_58 : decode cX7_layerParts 58 = .ok (.goto (-45), 3) := by decide +kernel
theorem dX7_layerParts_61 : decode cX7_layerParts 61 = .ok (.iload_n 3, 1) := by decide +kernel
theorem dX7_layerParts_62 : decode cX7_layerParts 62 = .ok (.ireturn, 1) := by decide +kernel
set_option maxRecDepth 20000 in
theorem ggX7_markPart_X2_beside : GoodIn wsX7_markPart wsX2_beside := goodIn_r _ [8, 9, 14, 15, 16, 17, 18] (by decide +kernel) (by decide +kernel)
set_option maxRecDepth 20000 in
theorem gX7_markPart_X2_beside : GoodIn wsX7_markPart (wsV RX7 53 RX2 yX2_beside wsX2_beside) := goodIn_app (goodIn_of _ (by decide +kernel)) ggX7_markPart_X2_beside
theorem dX7_markPart_0 : decode cX7_markPart 0 = .ok (.aload_n 0, 1) := by decide +kernel
theorem dX7_markPart_1 : decode cX7_markPart 1 = .ok (.getfield 18, 3) := by decide +kernel
theorem dX7_markPart_4 : decode cX7_markPart 4 = .ok (.iconst 0, 1) := by decide +kernel
theorem dX7_markPart_5 : decode cX7_markPart 5 = .ok (.iload_n 3, 1) := by decide +kernel
theorem dX7_markPart_6 : decode cX7_markPart 6 = .ok (.iastore, 1) := by decide +kernel
theorem dX7_markPart_7 : decode cX7_markPart 7 = .ok (.aload_n 0, 1) := by decide +kernel
theorem dX7_markPart_8 : decode cX7_markPart 8 = .ok (.getfield 15, 3) := by decide +kernel
theorem dX7_markPart_11 : decode cX7_markPart 11 = .ok (.iload_n 3, 1) := by decide +kernel
theorem dX7_markPart_12 : decode cX7_markPart 12 = .ok (.iload 4, 2) := by decide +kernel
theorem dX7_markPart_14 : decode cX7_markPart 14 = .ok (.iastore, 1) := by decide +kernel
theorem dX7_markPart_15 : decode cX7_markPart 15 = .ok (.iconst 1, 1) := by decide +kernel
theorem dX7_markPart_16 : decode cX7_markPart 16 = .ok (.istore 5, 2) := by decide +kernel
theorem dX7_markPart_18 : decode cX7_markPart 18 = .ok (.iconst 0, 1) := by decide +kernel
theorem dX7_markPart_19 : decode cX7_markPart 19 = .ok (.istore 6, 2) := by decide +kernel
theorem dX7_markPart_21 : decode cX7_markPart 21 = .ok (.iload 6, 2) := by decide +kernel
theorem dX7_markPart_23 : decode cX7_markPart 23 = .ok (.iload 5, 2) := by decide +kernel
theorem dX7_markPart_25 : decode cX7_markPart 25 = .ok (.if_icmp .ge 104, 3) := by decide +kernel
theorem dX7_markPart_28 : decode cX7_markPart 28 = .ok (.iload 6, 2) := by decide +kernel
theorem dX7_markPart_30 : decode cX7_markPart 30 = .ok (.bipush 25, 2) := by decide +kernel
theorem dX7_markPart_32 : decode cX7_markPart 32 = .ok (.if_icmp .ge 97, 3) := by decide +kernel
theorem dX7_markPart_35 : decode cX7_markPart 35 = .ok (.iconst 0, 1) := by decide +kernel
theorem dX7_markPart_36 : decode cX7_markPart 36 = .ok (.istore 7, 2) := by decide +kernel
theorem dX7_markPart_38 : decode cX7_markPart 38 = .ok (.iload 7, 2) := by decide +kernel
theorem dX7_markPart_40 : decode cX7_markPart 40 = .ok (.iconst 4, 1) := by decide +kernel
theorem dX7_markPart_41 : decode cX7_markPart 41 = .ok (.if_icmp .ge 82, 3) := by decide +kernel
theorem dX7_markPart_44 : decode cX7_markPart 44 = .ok (.aload_n 0, 1) := by decide +kernel
theorem dX7_markPart_45 : decode cX7_markPart 45 = .ok (.getfield 21, 3) := by decide +kernel
theorem dX7_markPart_48 : decode cX7_markPart 48 = .ok (.aload_n 0, 1) := by decide +kernel
theorem dX7_markPart_49 : decode cX7_markPart 49 = .ok (.getfield 18, 3) := by decide +kernel
theorem dX7_markPart_52 : decode cX7_markPart 52 = .ok (.iload 6, 2) := by decide +kernel
theorem dX7_markPart_54 : decode cX7_markPart 54 = .ok (.iaload, 1) := by decide +kernel
theorem dX7_markPart_55 : decode cX7_markPart 55 = .ok (.iload 7, 2) := by decide +kernel
theorem dX7_markPart_57 : decode cX7_markPart 57 = .ok (.invokevirtual 53, 3) := by decide +kernel
theorem dX7_markPart_60 : decode cX7_markPart 60 = .ok (.istore 8, 2) := by decide +kernel
theorem dX7_markPart_62 : decode cX7_markPart 62 = .ok (.iload 8, 2) := by decide +kernel
theorem dX7_markPart_64 : decode cX7_markPart 64 = .ok (.iconst (-1), 1) := by decide +kernel
theorem dX7_markPart_65 : decode cX7_markPart 65 = .ok (.if_icmp .eq 52, 3) := by decide +kernel
theorem dX7_markPart_68 : decode cX7_markPart 68 = .ok (.iload 5, 2) := by decide +kernel
theorem dX7_markPart_70 : decode cX7_markPart 70 = .ok (.bipush 25, 2) := by decide +kernel
theorem dX7_markPart_72 : decode cX7_markPart 72 = .ok (.if_icmp .lt 6, 3) := by decide +kernel
theorem dX7_markPart_75 : decode cX7_markPart 75 = .ok (.goto 42, 3) := by decide +kernel
theorem dX7_markPart_78 : decode cX7_markPart 78 = .ok (.aload_n 1, 1) := by decide +kernel
theorem dX7_markPart_79 : decode cX7_markPart 79 = .ok (.iload 8, 2) := by decide +kernel
theorem dX7_markPart_81 : decode cX7_markPart 81 = .ok (.iaload, 1) := by decide +kernel
theorem dX7_markPart_82 : decode cX7_markPart 82 = .ok (.iload_n 2, 1) := by decide +kernel
theorem dX7_markPart_83 : decode cX7_markPart 83 = .ok (.if_icmp .lt 34, 3) := by decide +kernel
theorem dX7_markPart_86 : decode cX7_markPart 86 = .ok (.aload_n 0, 1) := by decide +kernel
theorem dX7_markPart_87 : decode cX7_markPart 87 = .ok (.getfield 15, 3) := by decide +kernel
theorem dX7_markPart_90 : decode cX7_markPart 90 = .ok (.iload 8, 2) := by decide +kernel
theorem dX7_markPart_92 : decode cX7_markPart 92 = .ok (.iaload, 1) := by decide +kernel
theorem dX7_markPart_93 : decode cX7_markPart 93 = .ok (.ifCond .ne 24, 3) := by decide +kernel
theorem dX7_markPart_96 : decode cX7_markPart 96 = .ok (.aload_n 0, 1) := by decide +kernel
theorem dX7_markPart_97 : decode cX7_markPart 97 = .ok (.getfield 15, 3) := by decide +kernel
theorem dX7_markPart_100 : decode cX7_markPart 100 = .ok (.iload 8, 2) := by decide +kernel
theorem dX7_markPart_102 : decode cX7_markPart 102 = .ok (.iload 4, 2) := by decide +kernel
theorem dX7_markPart_104 : decode cX7_markPart 104 = .ok (.iastore, 1) := by decide +kernel
theorem dX7_markPart_105 : decode cX7_markPart 105 = .ok (.aload_n 0, 1) := by decide +kernel
theorem dX7_markPart_106 : decode cX7_markPart 106 = .ok (.getfield 18, 3) := by decide +kernel
theorem dX7_markPart_109 : decode cX7_markPart 109 = .ok (.iload 5, 2) := by decide +kernel
theorem dX7_markPart_111 : decode cX7_markPart 111 = .ok (.iinc 5 1, 3) := by decide +kernel
theorem dX7_markPart_114 : decode cX7_markPart 114 = .ok (.iload 8, 2) := by decide +kernel
theorem dX7_markPart_116 : decode cX7_markPart 116 = .ok (.iastore, 1) := by decide +kernel
theorem dX7_markPart_117 : decode cX7_markPart 117 = .ok (.iinc 7 1, 3) := by decide +kernel
theorem dX7_markPart_120 : decode cX7_markPart 120 = .ok (.goto (-82), 3) := by decide +kernel
theorem dX7_markPart_123 : decode cX7_markPart 123 = .ok (.iinc 6 1, 3) := by decide +kernel
theorem dX7_markPart_126 : decode cX7_markPart 126 = .ok (.goto (-105), 3) := by decide +kernel
theorem dX7_markPart_129 : decode cX7_markPart 129 = .ok (.return_, 1) := by decide +kernel
set_option maxRecDepth 20000 in
theorem ggX7_waterKept_X7_settle : GoodIn wsX7_waterKept wsX7_settle := goodIn_r _ [7, 2, 1, 8, 9, 10, 11, 12, 13, 14, 15, 16, 17, 18, 19, 20, 21, 22, 23, 24, 25, 6, 26, 27, 28, 29, 30, 31, 32, 33, 34, 35, 36, 37, 38, 44, 45, 46, 47, 48, 49, 50, 51, 52] (by decide +kernel) (by decide +kernel)
set_option maxRecDepth 20000 in
theorem gX7_waterKept_X7_settle : GoodIn wsX7_waterKept (wsV RX7 66 RX7 yX7_settle wsX7_settle) := goodIn_app (goodIn_of _ (by decide +kernel)) ggX7_waterKept_X7_settle
set_option maxRecDepth 20000 in
theorem ggX7_waterKept_X2_total : GoodIn wsX7_waterKept wsX2_total := goodIn_r _ [42, 43, 17, 18, 19, 20, 21, 22, 48, 49, 50, 51, 52] (by decide +kernel) (by decide +kernel)
set_option maxRecDepth 20000 in
theorem gX7_waterKept_X2_total : GoodIn wsX7_waterKept (wsV RX7 70 RX2 yX2_total wsX2_total) := goodIn_app (goodIn_of _ (by decide +kernel)) ggX7_waterKept_X2_total
theorem dX7_waterKept_0 : decode cX7_waterKept 0 = .ok (.aload_n 0, 1) := by decide +kernel
theorem dX7_waterKept_1 : decode cX7_waterKept 1 = .ok (.aload_n 1, 1) := by decide +kernel
theorem dX7_waterKept_2 : decode cX7_waterKept 2 = .ok (.invokevirtual 66, 3) := by decide +kernel
theorem dX7_waterKept_5 : decode cX7_waterKept 5 = .ok (.aload_n 0, 1) := by decide +kernel
theorem dX7_waterKept_6 : decode cX7_waterKept 6 = .ok (.getfield 21, 3) := by decide +kernel
theorem dX7_waterKept_9 : decode cX7_waterKept 9 = .ok (.aload_n 0, 1) := by decide +kernel
theorem dX7_waterKept_10 : decode cX7_waterKept 10 = .ok (.getfield 9, 3) := by decide +kernel
theorem dX7_waterKept_13 : decode cX7_waterKept 13 = .ok (.invokevirtual 70, 3) := by decide +kernel
theorem dX7_waterKept_16 : decode cX7_waterKept 16 = .ok (.aload_n 0, 1) := by decide +kernel
theorem dX7_waterKept_17 : decode cX7_waterKept 17 = .ok (.getfield 21, 3) := by decide +kernel
theorem dX7_waterKept_20 : decode cX7_waterKept 20 = .ok (.aload_n 1, 1) := by decide +kernel
theorem dX7_waterKept_21 : decode cX7_waterKept 21 = .ok (.invokevirtual 70, 3) := by decide +kernel
theorem dX7_waterKept_24 : decode cX7_waterKept 24 = .ok (.isub, 1) := by decide +kernel
theorem dX7_waterKept_25 : decode cX7_waterKept 25 = .ok (.ireturn, 1) := by decide +kernel
set_option maxRecDepth 20000 in
theorem ggX7_waterLevel_X7_settle : GoodIn wsX7_waterLevel wsX7_settle := goodIn_r _ [6, 1, 7, 8, 9, 10, 11, 12, 13, 14, 15, 16, 17, 18, 19, 20, 21, 22, 23, 24, 25, 5, 26, 27, 28, 29, 30, 31, 32, 33, 34, 35, 36, 37, 38, 39, 40, 41, 42, 43, 44, 45, 46, 47] (by decide +kernel) (by decide +kernel)
set_option maxRecDepth 20000 in
theorem gX7_waterLevel_X7_settle : GoodIn wsX7_waterLevel (wsV RX7 66 RX7 yX7_settle wsX7_settle) := goodIn_app (goodIn_of _ (by decide +kernel)) ggX7_waterLevel_X7_settle
theorem dX7_waterLevel_0 : decode cX7_waterLevel 0 = .ok (.aload_n 0, 1) := by decide +kernel
theorem dX7_waterLevel_1 : decode cX7_waterLevel 1 = .ok (.aload_n 1, 1) := by decide +kernel
theorem dX7_waterLevel_2 : decode cX7_waterLevel 2 = .ok (.invokevirtual 66, 3) := by decide +kernel
theorem dX7_waterLevel_5 : decode cX7_waterLevel 5 = .ok (.aload_n 0, 1) := by decide +kernel
theorem dX7_waterLevel_6 : decode cX7_waterLevel 6 = .ok (.getfield 9, 3) := by decide +kernel
theorem dX7_waterLevel_9 : decode cX7_waterLevel 9 = .ok (.iload_n 2, 1) := by decide +kernel
theorem dX7_waterLevel_10 : decode cX7_waterLevel 10 = .ok (.iaload, 1) := by decide +kernel
theorem dX7_waterLevel_11 : decode cX7_waterLevel 11 = .ok (.ireturn, 1) := by decide +kernel
set_option maxRecDepth 20000 in
theorem ggX7_settle_J7_fill_53178 : GoodIn wsX7_settle wsJ7_fill_53178 := goodIn_r _ [10] (by decide +kernel) (by decide +kernel)
set_option maxRecDepth 20000 in
theorem gX7_settle_J7_fill_53178 : GoodIn wsX7_settle (va_wsS RX7 56 yJ7_fill_53178 wsJ7_fill_53178) := goodIn_app (goodIn_of _ (by decide +kernel)) ggX7_settle_J7_fill_53178
set_option maxRecDepth 20000 in
theorem ggX7_settle_X2_cells : GoodIn wsX7_settle wsX2_cells := goodIn_r _ [15, 16, 17, 39, 40, 41, 42, 43] (by decide +kernel) (by decide +kernel)
set_option maxRecDepth 20000 in
theorem gX7_settle_X2_cells : GoodIn wsX7_settle (wsV RX7 45 RX2 yX2_cells wsX2_cells) := goodIn_app (goodIn_of _ (by decide +kernel)) ggX7_settle_X2_cells
set_option maxRecDepth 20000 in
theorem ggX7_settle_X7_lowestBeside : GoodIn wsX7_settle wsX7_lowestBeside := goodIn_r _ [22, 1, 23, 24, 5, 25, 26, 27, 28, 21, 29, 2, 30, 31, 32, 14, 33, 34, 35, 36, 37, 38, 39, 40, 41, 42, 43] (by decide +kernel) (by decide +kernel)
set_option maxRecDepth 20000 in
theorem gX7_settle_X7_lowestBeside : GoodIn wsX7_settle (wsV RX7 74 RX7 yX7_lowestBeside wsX7_lowestBeside) := goodIn_app (goodIn_of _ (by decide +kernel)) ggX7_settle_X7_lowestBeside
theorem dX7_settle_0 : decode cX7_settle 0 = .ok (.aload_n 0, 1) := by decide +kernel
theorem dX7_settle_1 : decode cX7_settle 1 = .ok (.getfield 9, 3) := by decide +kernel
theorem dX7_settle_4 : decode cX7_settle 4 = .ok (.iconst 4, 1) := by decide +kernel
theorem dX7_settle_5 : decode cX7_settle 5 = .ok (.invokestatic 56, 3) := by decide +kernel
theorem dX7_settle_8 : decode cX7_settle 8 = .ok (.iconst 1, 1) := by decide +kernel
theorem dX7_settle_9 : decode cX7_settle 9 = .ok (.istore_n 2, 1) := by decide +kernel
theorem dX7_settle_10 : decode cX7_settle 10 = .ok (.iconst 0, 1) := by decide +kernel
theorem dX7_settle_11 : decode cX7_settle 11 = .ok (.istore_n 3, 1) := by decide +kernel
theorem dX7_settle_12 : decode cX7_settle 12 = .ok (.iload_n 3, 1) := by decide +kernel
theorem dX7_settle_13 : decode cX7_settle 13 = .ok (.bipush 25, 2) := by decide +kernel
theorem dX7_settle_15 : decode cX7_settle 15 = .ok (.if_icmp .ge 74, 3) := by decide +kernel
theorem dX7_settle_18 : decode cX7_settle 18 = .ok (.iload_n 2, 1) := by decide +kernel
theorem dX7_settle_19 : decode cX7_settle 19 = .ok (.ifCond .eq 70, 3) := by decide +kernel
theorem dX7_settle_22 : decode cX7_settle 22 = .ok (.iconst 0, 1) := by decide +kernel
theorem dX7_settle_23 : decode cX7_settle 23 = .ok (.istore_n 2, 1) := by decide +kernel
theorem dX7_settle_24 : decode cX7_settle 24 = .ok (.iconst 0, 1) := by decide +kernel
theorem dX7_settle_25 : decode cX7_settle 25 = .ok (.istore 4, 2) := by decide +kernel
theorem dX7_settle_27 : decode cX7_settle 27 = .ok (.iload 4, 2) := by decide +kernel
theorem dX7_settle_29 : decode cX7_settle 29 = .ok (.aload_n 0, 1) := by decide +kernel
theorem dX7_settle_30 : decode cX7_settle 30 = .ok (.getfield 21, 3) := by decide +kernel
theorem dX7_settle_33 : decode cX7_settle 33 = .ok (.invokevirtual 45, 3) := by decide +kernel
theorem dX7_settle_36 : decode cX7_settle 36 = .ok (.if_icmp .ge 47, 3) := by decide +kernel
theorem dX7_settle_39 : decode cX7_settle 39 = .ok (.aload_n 1, 1) := by decide +kernel
theorem dX7_settle_40 : decode cX7_settle 40 = .ok (.iload 4, 2) := by decide +kernel
theorem dX7_settle_42 : decode cX7_settle 42 = .ok (.iaload, 1) := by decide +kernel
theorem dX7_settle_43 : decode cX7_settle 43 = .ok (.aload_n 0, 1) := by decide +kernel
theorem dX7_settle_44 : decode cX7_settle 44 = .ok (.iload 4, 2) := by decide +kernel
theorem dX7_settle_46 : decode cX7_settle 46 = .ok (.invokevirtual 74, 3) := by decide +kernel
theorem dX7_settle_49 : decode cX7_settle 49 = .ok (.invokestatic 35, 3) := by decide +kernel
theorem dX7_settle_52 : decode cX7_settle 52 = .ok (.istore 5, 2) := by decide +kernel
theorem dX7_settle_54 : decode cX7_settle 54 = .ok (.iload 5, 2) := by decide +kernel
theorem dX7_settle_56 : decode cX7_settle 56 = .ok (.aload_n 0, 1) := by decide +kernel
theorem dX7_settle_57 : decode cX7_settle 57 = .ok (.getfield 9, 3) := by decide +kernel
theorem dX7_settle_60 : decode cX7_settle 60 = .ok (.iload 4, 2) := by decide +kernel
theorem dX7_settle_62 : decode cX7_settle 62 = .ok (.iaload, 1) := by decide +kernel
theorem dX7_settle_63 : decode cX7_settle 63 = .ok (.if_icmp .ge 14, 3) := by decide +kernel
theorem dX7_settle_66 : decode cX7_settle 66 = .ok (.aload_n 0, 1) := by decide +kernel
theorem dX7_settle_67 : decode cX7_settle 67 = .ok (.getfield 9, 3) := by decide +kernel
theorem dX7_settle_70 : decode cX7_settle 70 = .ok (.iload 4, 2) := by decide +kernel
theorem dX7_settle_72 : decode cX7_settle 72 = .ok (.iload 5, 2) := by decide +kernel
theorem dX7_settle_74 : decode cX7_settle 74 = .ok (.iastore, 1) := by decide +kernel
theorem dX7_settle_75 : decode cX7_settle 75 = .ok (.iconst 1, 1) := by decide +kernel
theorem dX7_settle_76 : decode cX7_settle 76 = .ok (.istore_n 2, 1) := by decide +kernel
theorem dX7_settle_77 : decode cX7_settle 77 = .ok (.iinc 4 1, 3) := by decide +kernel
theorem dX7_settle_80 : decode cX7_settle 80 = .ok (.goto (-53), 3) := by decide +kernel
theorem dX7_settle_83 : decode cX7_settle 83 = .ok (.iinc 3 1, 3) := by decide +kernel
theorem dX7_settle_86 : decode cX7_settle 86 = .ok (.goto (-74), 3) := by decide +kernel
theorem dX7_settle_89 : decode cX7_settle 89 = .ok (.return_, 1) := by decide +kernel
set_option maxRecDepth 20000 in
theorem ggX7_lowestBeside_X7_valueBeside : GoodIn wsX7_lowestBeside wsX7_valueBeside := goodIn_r _ [10, 11, 12, 13, 14, 15, 16, 17, 18, 19, 20, 21, 22, 23, 24, 25, 26] (by decide +kernel) (by decide +kernel)
set_option maxRecDepth 20000 in
theorem gX7_lowestBeside_X7_valueBeside : GoodIn wsX7_lowestBeside (wsV RX7 49 RX7 yX7_valueBeside wsX7_valueBeside) := goodIn_app (goodIn_of _ (by decide +kernel)) ggX7_lowestBeside_X7_valueBeside
theorem dX7_lowestBeside_0 : decode cX7_lowestBeside 0 = .ok (.iconst 4, 1) := by decide +kernel
theorem dX7_lowestBeside_1 : decode cX7_lowestBeside 1 = .ok (.istore_n 2, 1) := by decide +kernel
theorem dX7_lowestBeside_2 : decode cX7_lowestBeside 2 = .ok (.iconst 0, 1) := by decide +kernel
theorem dX7_lowestBeside_3 : decode cX7_lowestBeside 3 = .ok (.istore_n 3, 1) := by decide +kernel
theorem dX7_lowestBeside_4 : decode cX7_lowestBeside 4 = .ok (.iload_n 3, 1) := by decide +kernel
theorem dX7_lowestBeside_5 : decode cX7_lowestBeside 5 = .ok (.iconst 4, 1) := by decide +kernel
theorem dX7_lowestBeside_6 : decode cX7_lowestBeside 6 = .ok (.if_icmp .ge 24, 3) := by decide +kernel
theorem dX7_lowestBeside_9 : decode cX7_lowestBeside 9 = .ok (.iload_n 2, 1) := by decide +kernel
theorem dX7_lowestBeside_10 : decode cX7_lowestBeside 10 = .ok (.aload_n 0, 1) := by decide +kernel
theorem dX7_lowestBeside_11 : decode cX7_lowestBeside 11 = .ok (.aload_n 0, 1) := by decide +kernel
theorem dX7_lowestBeside_12 : decode cX7_lowestBeside 12 = .ok (.getfield 9, 3) := by decide +kernel
theorem dX7_lowestBeside_15 : decode cX7_lowestBeside 15 = .ok (.iload_n 1, 1) := by decide +kernel
theorem dX7_lowestBeside_16 : decode cX7_lowestBeside 16 = .ok (.iload_n 3, 1) := by decide +kernel
theorem dX7_lowestBeside_17 : decode cX7_lowestBeside 17 = .ok (.invokevirtual 49, 3) := by decide +kernel
theorem dX7_lowestBeside_20 : decode cX7_lowestBeside 20 = .ok (.invokestatic 78, 3) := by decide +kernel
theorem dX7_lowestBeside_23 : decode cX7_lowestBeside 23 = .ok (.istore_n 2, 1) := by decide +kernel
theorem dX7_lowestBeside_24 : decode cX7_lowestBeside 24 = .ok (.iinc 3 1, 3) := by decide +kernel
theorem dX7_lowestBeside_27 : decode cX7_lowestBeside 27 = .ok (.goto (-23), 3) := by decide +kernel
theorem dX7_lowestBeside_30 : decode cX7_lowestBeside 30 = .ok (.iload_n 2, 1) := by decide +kernel
theorem dX7_lowestBeside_31 : decode cX7_lowestBeside 31 = .ok (.ireturn, 1) := by decide +kernel
set_option maxRecDepth 20000 in
theorem ggX5_init_X3_init : GoodIn wsX5_init wsX3_init := goodIn_r _ [14, 15, 2, 3, 8, 16, 17, 32, 33] (by decide +kernel) (by decide +kernel)
set_option maxRecDepth 20000 in
theorem gX5_init_X3_init_n11 : GoodIn wsX5_init (wsX3_init) := ggX5_init_X3_init
set_option maxRecDepth 20000 in
theorem ggX5_init_X5_forget : GoodIn wsX5_init wsX5_forget := goodIn_r _ [22, 7, 9, 10, 23, 24, 25, 6, 26, 16, 17, 27, 28, 29, 30, 31, 34, 35, 36, 37, 38, 32, 33] (by decide +kernel) (by decide +kernel)
set_option maxRecDepth 20000 in
theorem gX5_init_X5_forget : GoodIn wsX5_init (wsV RX5 34 RX5 yX5_forget wsX5_forget) := goodIn_app (goodIn_of _ (by decide +kernel)) ggX5_init_X5_forget
theorem dX5_init_0 : decode cX5_init 0 = .ok (.aload_n 0, 1) := by decide +kernel
theorem dX5_init_1 : decode cX5_init 1 = .ok (.invokespecial 3, 3) := by decide +kernel
theorem dX5_init_4 : decode cX5_init 4 = .ok (.aload_n 0, 1) := by decide +kernel
theorem dX5_init_5 : decode cX5_init 5 = .ok (.new 9, 3) := by decide +kernel
theorem dX5_init_8 : decode cX5_init 8 = .ok (.dup, 1) := by decide +kernel
theorem dX5_init_9 : decode cX5_init 9 = .ok (.invokespecial 11, 3) := by decide +kernel
theorem dX5_init_12 : decode cX5_init 12 = .ok (.putfield 12, 3) := by decide +kernel
theorem dX5_init_15 : decode cX5_init 15 = .ok (.aload_n 0, 1) := by decide +kernel
theorem dX5_init_16 : decode cX5_init 16 = .ok (.bipush 25, 2) := by decide +kernel
theorem dX5_init_18 : decode cX5_init 18 = .ok (.newarray .int, 2) := by decide +kernel
theorem dX5_init_20 : decode cX5_init 20 = .ok (.putfield 18, 3) := by decide +kernel
theorem dX5_init_23 : decode cX5_init 23 = .ok (.aload_n 0, 1) := by decide +kernel
theorem dX5_init_24 : decode cX5_init 24 = .ok (.iconst 0, 1) := by decide +kernel
theorem dX5_init_25 : decode cX5_init 25 = .ok (.putfield 22, 3) := by decide +kernel
theorem dX5_init_28 : decode cX5_init 28 = .ok (.aload_n 0, 1) := by decide +kernel
theorem dX5_init_29 : decode cX5_init 29 = .ok (.aload_n 1, 1) := by decide +kernel
theorem dX5_init_30 : decode cX5_init 30 = .ok (.putfield 26, 3) := by decide +kernel
theorem dX5_init_33 : decode cX5_init 33 = .ok (.aload_n 0, 1) := by decide +kernel
theorem dX5_init_34 : decode cX5_init 34 = .ok (.aload_n 2, 1) := by decide +kernel
theorem dX5_init_35 : decode cX5_init 35 = .ok (.putfield 30, 3) := by decide +kernel
theorem dX5_init_38 : decode cX5_init 38 = .ok (.aload_n 0, 1) := by decide +kernel
theorem dX5_init_39 : decode cX5_init 39 = .ok (.invokevirtual 34, 3) := by decide +kernel
theorem dX5_init_42 : decode cX5_init 42 = .ok (.return_, 1) := by decide +kernel
set_option maxRecDepth 20000 in
theorem ggX5_forget_X3_putAll : GoodIn wsX5_forget wsX3_putAll := goodIn_r _ [8, 9, 10, 11, 12, 13, 14, 21, 22] (by decide +kernel) (by decide +kernel)
set_option maxRecDepth 20000 in
theorem gX5_forget_X3_putAll : GoodIn wsX5_forget (wsV RX5 37 RX3 yX3_putAll wsX3_putAll) := goodIn_app (goodIn_of _ (by decide +kernel)) ggX5_forget_X3_putAll
set_option maxRecDepth 20000 in
theorem ggX5_forget_J7_fill_53178 : GoodIn wsX5_forget wsJ7_fill_53178 := goodIn_r _ [14] (by decide +kernel) (by decide +kernel)
set_option maxRecDepth 20000 in
theorem gX5_forget_J7_fill_53178 : GoodIn wsX5_forget (va_wsS RX5 41 yJ7_fill_53178 wsJ7_fill_53178) := goodIn_app (goodIn_of _ (by decide +kernel)) ggX5_forget_J7_fill_53178
theorem dX5_forget_0 : decode cX5_forget 0 = .ok (.aload_n 0, 1) := by decide +kernel
theorem dX5_forget_1 : decode cX5_forget 1 = .ok (.getfield 12, 3) := by decide +kernel
theorem dX5_forget_4 : decode cX5_forget 4 = .ok (.bipush (-9), 2) := by decide +kernel
theorem dX5_forget_6 : decode cX5_forget 6 = .ok (.invokevirtual 37, 3) := by decide +kernel
theorem dX5_forget_9 : decode cX5_forget 9 = .ok (.aload_n 0, 1) := by decide +kernel
theorem dX5_forget_10 : decode cX5_forget 10 = .ok (.getfield 18, 3) := by decide +kernel
theorem dX5_forget_13 : decode cX5_forget 13 = .ok (.bipush (-9), 2) := by decide +kernel
theorem dX5_forget_15 : decode cX5_forget 15 = .ok (.invokestatic 41, 3) := by decide +kernel
theorem dX5_forget_18 : decode cX5_forget 18 = .ok (.aload_n 0, 1) := by decide +kernel
theorem dX5_forget_19 : decode cX5_forget 19 = .ok (.dup, 1) := by decide +kernel
theorem dX5_forget_20 : decode cX5_forget 20 = .ok (.getfield 22, 3) := by decide +kernel
theorem dX5_forget_23 : decode cX5_forget 23 = .ok (.iconst 1, 1) := by decide +kernel
theorem dX5_forget_24 : decode cX5_forget 24 = .ok (.iadd, 1) := by decide +kernel
theorem dX5_forget_25 : decode cX5_forget 25 = .ok (.putfield 22, 3) := by decide +kernel
theorem dX5_forget_28 : decode cX5_forget 28 = .ok (.return_, 1) := by decide +kernel
theorem dX5_version_0 : decode cX5_version 0 = .ok (.aload_n 0, 1) := by decide +kernel
theorem dX5_version_1 : decode cX5_version 1 = .ok (.getfield 22, 3) := by decide +kernel
theorem dX5_version_4 : decode cX5_version 4 = .ok (.ireturn, 1) := by decide +kernel
set_option maxRecDepth 20000 in
theorem ggX5_line_X3_of : GoodIn wsX5_line wsX3_of := goodIn_r _ [6, 7, 8, 14, 15] (by decide +kernel) (by decide +kernel)
set_option maxRecDepth 20000 in
theorem gX5_line_X3_of : GoodIn wsX5_line (wsV RX5 47 RX3 yX3_of wsX3_of) := goodIn_app (goodIn_of _ (by decide +kernel)) ggX5_line_X3_of
theorem dX5_line_0 : decode cX5_line 0 = .ok (.aload_n 0, 1) := by decide +kernel
theorem dX5_line_1 : decode cX5_line 1 = .ok (.getfield 12, 3) := by decide +kernel
theorem dX5_line_4 : decode cX5_line 4 = .ok (.iload_n 1, 1) := by decide +kernel
theorem dX5_line_5 : decode cX5_line 5 = .ok (.iload_n 2, 1) := by decide +kernel
theorem dX5_line_6 : decode cX5_line 6 = .ok (.invokevirtual 47, 3) := by decide +kernel
theorem dX5_line_9 : decode cX5_line 9 = .ok (.ireturn, 1) := by decide +kernel
theorem dX5_top_0 : decode cX5_top 0 = .ok (.aload_n 0, 1) := by decide +kernel
theorem dX5_top_1 : decode cX5_top 1 = .ok (.getfield 18, 3) := by decide +kernel
theorem dX5_top_4 : decode cX5_top 4 = .ok (.iload_n 1, 1) := by decide +kernel
theorem dX5_top_5 : decode cX5_top 5 = .ok (.iaload, 1) := by decide +kernel
theorem dX5_top_6 : decode cX5_top 6 = .ok (.ireturn, 1) := by decide +kernel
set_option maxRecDepth 20000 in
theorem ggX5_putLine_X3_put : GoodIn wsX5_putLine wsX3_put := goodIn_r _ [7, 8, 9, 15, 16] (by decide +kernel) (by decide +kernel)
set_option maxRecDepth 20000 in
theorem gX5_putLine_X3_put : GoodIn wsX5_putLine (wsV RX5 51 RX3 yX3_put wsX3_put) := goodIn_app (goodIn_of _ (by decide +kernel)) ggX5_putLine_X3_put
theorem dX5_putLine_0 : decode cX5_putLine 0 = .ok (.aload_n 0, 1) := by decide +kernel
theorem dX5_putLine_1 : decode cX5_putLine 1 = .ok (.dup, 1) := by decide +kernel
theorem dX5_putLine_2 : decode cX5_putLine 2 = .ok (.getfield 22, 3) := by decide +kernel
theorem dX5_putLine_5 : decode cX5_putLine 5 = .ok (.iconst 1, 1) := by decide +kernel
theorem dX5_putLine_6 : decode cX5_putLine 6 = .ok (.iadd, 1) := by decide +kernel
theorem dX5_putLine_7 : decode cX5_putLine 7 = .ok (.putfield 22, 3) := by decide +kernel
theorem dX5_putLine_10 : decode cX5_putLine 10 = .ok (.aload_n 0, 1) := by decide +kernel
theorem dX5_putLine_11 : decode cX5_putLine 11 = .ok (.getfield 12, 3) := by decide +kernel
theorem dX5_putLine_14 : decode cX5_putLine 14 = .ok (.iload_n 1, 1) := by decide +kernel
theorem dX5_putLine_15 : decode cX5_putLine 15 = .ok (.iload_n 2, 1) := by decide +kernel
theorem dX5_putLine_16 : decode cX5_putLine 16 = .ok (.iload_n 3, 1) := by decide +kernel
theorem dX5_putLine_17 : decode cX5_putLine 17 = .ok (.invokevirtual 51, 3) := by decide +kernel
theorem dX5_putLine_20 : decode cX5_putLine 20 = .ok (.ireturn, 1) := by decide +kernel
theorem dX5_putTop_0 : decode cX5_putTop 0 = .ok (.aload_n 0, 1) := by decide +kernel
theorem dX5_putTop_1 : decode cX5_putTop 1 = .ok (.dup, 1) := by decide +kernel
theorem dX5_putTop_2 : decode cX5_putTop 2 = .ok (.getfield 22, 3) := by decide +kernel
theorem dX5_putTop_5 : decode cX5_putTop 5 = .ok (.iconst 1, 1) := by decide +kernel
theorem dX5_putTop_6 : decode cX5_putTop 6 = .ok (.iadd, 1) := by decide +kernel
theorem dX5_putTop_7 : decode cX5_putTop 7 = .ok (.putfield 22, 3) := by decide +kernel
theorem dX5_putTop_10 : decode cX5_putTop 10 = .ok (.aload_n 0, 1) := by decide +kernel
theorem dX5_putTop_11 : decode cX5_putTop 11 = .ok (.getfield 18, 3) := by decide +kernel
theorem dX5_putTop_14 : decode cX5_putTop 14 = .ok (.iload_n 1, 1) := by decide +kernel
theorem dX5_putTop_15 : decode cX5_putTop 15 = .ok (.iaload, 1) := by decide +kernel
theorem dX5_putTop_16 : decode cX5_putTop 16 = .ok (.istore_n 3, 1) := by decide +kernel
theorem dX5_putTop_17 : decode cX5_putTop 17 = .ok (.aload_n 0, 1) := by decide +kernel
theorem dX5_putTop_18 : decode cX5_putTop 18 = .ok (.getfield 18, 3) := by decide +kernel
theorem dX5_putTop_21 : decode cX5_putTop 21 = .ok (.iload_n 1, 1) := by decide +kernel
theorem dX5_putTop_22 : decode cX5_putTop 22 = .ok (.iload_n 2, 1) := by decide +kernel
theorem dX5_putTop_23 : decode cX5_putTop 23 = .ok (.iastore, 1) := by decide +kernel
theorem dX5_putTop_24 : decode cX5_putTop 24 = .ok (.iload_n 3, 1) := by decide +kernel
theorem dX5_putTop_25 : decode cX5_putTop 25 = .ok (.ireturn, 1) := by decide +kernel
set_option maxRecDepth 20000 in
theorem ggX5_linesAs_X5_putLinesAs : GoodIn wsX5_linesAs wsX5_putLinesAs := goodIn_r _ [5, 6, 7, 8, 9, 10, 11, 12, 13, 14, 15, 16, 17, 18, 19, 20, 21, 22, 23, 24, 25, 26, 27, 28, 29, 30, 31, 32, 33, 34, 35, 4, 36, 37, 38, 39, 40, 41, 42, 43, 44, 45, 46, 47, 48, 49, 50, 51, 52, 53, 54, 55, 56, 57, 58, 59, 60, 61] (by decide +kernel) (by decide +kernel)
set_option maxRecDepth 20000 in
theorem gX5_linesAs_X5_putLinesAs : GoodIn wsX5_linesAs (wsV RX5 55 RX5 yX5_putLinesAs wsX5_putLinesAs) := goodIn_app (goodIn_of _ (by decide +kernel)) ggX5_linesAs_X5_putLinesAs
theorem dX5_linesAs_0 : decode cX5_linesAs 0 = .ok (.aload_n 0, 1) := by decide +kernel
theorem dX5_linesAs_1 : decode cX5_linesAs 1 = .ok (.aload_n 1, 1) := by decide +kernel
theorem dX5_linesAs_2 : decode cX5_linesAs 2 = .ok (.iconst 1, 1) := by decide +kernel
theorem dX5_linesAs_3 : decode cX5_linesAs 3 = .ok (.invokevirtual 55, 3) := by decide +kernel
theorem dX5_linesAs_6 : decode cX5_linesAs 6 = .ok (.aload_n 0, 1) := by decide +kernel
theorem dX5_linesAs_7 : decode cX5_linesAs 7 = .ok (.aload_n 1, 1) := by decide +kernel
theorem dX5_linesAs_8 : decode cX5_linesAs 8 = .ok (.iconst 0, 1) := by decide +kernel
theorem dX5_linesAs_9 : decode cX5_linesAs 9 = .ok (.invokevirtual 55, 3) := by decide +kernel
theorem dX5_linesAs_12 : decode cX5_linesAs 12 = .ok (.iadd, 1) := by decide +kernel
theorem dX5_linesAs_13 : decode cX5_linesAs 13 = .ok (.ireturn, 1) := by decide +kernel
set_option maxRecDepth 20000 in
theorem ggX5_putLinesAs_X2_lines : GoodIn wsX5_putLinesAs wsX2_lines := goodIn_r _ [7, 8, 9, 47, 48, 49, 50, 51] (by decide +kernel) (by decide +kernel)
set_option maxRecDepth 20000 in
theorem gX5_putLinesAs_X2_lines : GoodIn wsX5_putLinesAs (wsV RX5 59 RX2 yX2_lines wsX2_lines) := goodIn_app (goodIn_of _ (by decide +kernel)) ggX5_putLinesAs_X2_lines
set_option maxRecDepth 20000 in
theorem ggX5_putLinesAs_X7_tallest : GoodIn wsX5_putLinesAs wsX7_tallest := goodIn_r _ [14, 15, 16, 17, 18, 19, 20, 21, 22, 6, 23, 9, 8, 24, 25, 26, 27, 52, 53, 54, 55, 47, 48, 49, 50, 51] (by decide +kernel) (by decide +kernel)
set_option maxRecDepth 20000 in
theorem gX5_putLinesAs_X7_tallest : GoodIn wsX5_putLinesAs (wsV RX5 65 RX7 yX7_tallest wsX7_tallest) := goodIn_app (goodIn_of _ (by decide +kernel)) ggX5_putLinesAs_X7_tallest
set_option maxRecDepth 20000 in
theorem ggX5_putLinesAs_X5_putLine : GoodIn wsX5_putLinesAs wsX5_putLine := goodIn_r _ [32, 33, 34, 35, 36, 37, 38, 39, 40, 41, 42, 43, 44, 45, 46, 56, 57] (by decide +kernel) (by decide +kernel)
set_option maxRecDepth 20000 in
theorem gX5_putLinesAs_X5_putLine : GoodIn wsX5_putLinesAs (wsV RX5 70 RX5 yX5_putLine wsX5_putLine) := goodIn_app (goodIn_of _ (by decide +kernel)) ggX5_putLinesAs_X5_putLine
theorem dX5_putLinesAs_0 : decode cX5_putLinesAs 0 = .ok (.iconst 0, 1) := by decide +kernel
theorem dX5_putLinesAs_1 : decode cX5_putLinesAs 1 = .ok (.istore_n 3, 1) := by decide +kernel
theorem dX5_putLinesAs_2 : decode cX5_putLinesAs 2 = .ok (.iconst 0, 1) := by decide +kernel
theorem dX5_putLinesAs_3 : decode cX5_putLinesAs 3 = .ok (.istore 4, 2) := by decide +kernel
theorem dX5_putLinesAs_5 : decode cX5_putLinesAs 5 = .ok (.iload 4, 2) := by decide +kernel
theorem dX5_putLinesAs_7 : decode cX5_putLinesAs 7 = .ok (.aload_n 0, 1) := by decide +kernel
theorem dX5_putLinesAs_8 : decode cX5_putLinesAs 8 = .ok (.getfield 26, 3) := by decide +kernel
theorem dX5_putLinesAs_11 : decode cX5_putLinesAs 11 = .ok (.iload_n 2, 1) := by decide +kernel
theorem dX5_putLinesAs_12 : decode cX5_putLinesAs 12 = .ok (.invokevirtual 59, 3) := by decide +kernel
theorem dX5_putLinesAs_15 : decode cX5_putLinesAs 15 = .ok (.if_icmp .ge 39, 3) := by decide +kernel
theorem dX5_putLinesAs_18 : decode cX5_putLinesAs 18 = .ok (.aload_n 0, 1) := by decide +kernel
theorem dX5_putLinesAs_19 : decode cX5_putLinesAs 19 = .ok (.getfield 30, 3) := by decide +kernel
theorem dX5_putLinesAs_22 : decode cX5_putLinesAs 22 = .ok (.aload_n 1, 1) := by decide +kernel
theorem dX5_putLinesAs_23 : decode cX5_putLinesAs 23 = .ok (.iload_n 2, 1) := by decide +kernel
theorem dX5_putLinesAs_24 : decode cX5_putLinesAs 24 = .ok (.iload 4, 2) := by decide +kernel
theorem dX5_putLinesAs_26 : decode cX5_putLinesAs 26 = .ok (.invokevirtual 65, 3) := by decide +kernel
theorem dX5_putLinesAs_29 : decode cX5_putLinesAs 29 = .ok (.istore 5, 2) := by decide +kernel
theorem dX5_putLinesAs_31 : decode cX5_putLinesAs 31 = .ok (.aload_n 0, 1) := by decide +kernel
theorem dX5_putLinesAs_32 : decode cX5_putLinesAs 32 = .ok (.iload_n 2, 1) := by decide +kernel
theorem dX5_putLinesAs_33 : decode cX5_putLinesAs 33 = .ok (.iload 4, 2) := by decide +kernel
theorem dX5_putLinesAs_35 : decode cX5_putLinesAs 35 = .ok (.iload 5, 2) := by decide +kernel
theorem dX5_putLinesAs_37 : decode cX5_putLinesAs 37 = .ok (.invokevirtual 70, 3) := by decide +kernel
theorem dX5_putLinesAs_40 : decode cX5_putLinesAs 40 = .ok (.iload 5, 2) := by decide +kernel
theorem dX5_putLinesAs_42 : decode cX5_putLinesAs 42 = .ok (.if_icmp .eq 6, 3) := by decide +kernel
theorem dX5_putLinesAs_45 : decode cX5_putLinesAs 45 = .ok (.iinc 3 1, 3) := by decide +kernel
theorem dX5_putLinesAs_48 : decode cX5_putLinesAs 48 = .ok (.iinc 4 1, 3) := by decide +kernel
theorem dX5_putLinesAs_51 : decode cX5_putLinesAs 51 = .ok (.goto (-46), 3) := by decide +kernel
theorem dX5_putLinesAs_54 : decode cX5_putLinesAs 54 = .ok (.iload_n 3, 1) := by decide +kernel
theorem dX5_putLinesAs_55 : decode cX5_putLinesAs 55 = .ok (.ireturn, 1) := by decide +kernel
set_option maxRecDepth 20000 in
theorem ggX5_topsAs_X2_cells : GoodIn wsX5_topsAs wsX2_cells := goodIn_r _ [6, 7, 8, 24, 25, 26, 27, 28] (by decide +kernel) (by decide +kernel)
set_option maxRecDepth 20000 in
theorem gX5_topsAs_X2_cells : GoodIn wsX5_topsAs (wsV RX5 73 RX2 yX2_cells wsX2_cells) := goodIn_app (goodIn_of _ (by decide +kernel)) ggX5_topsAs_X2_cells
set_option maxRecDepth 20000 in
theorem ggX5_topsAs_X5_topOf : GoodIn wsX5_topsAs wsX5_topOf := goodIn_r _ [12] (by decide +kernel) (by decide +kernel)
set_option maxRecDepth 20000 in
theorem gX5_topsAs_X5_topOf : GoodIn wsX5_topsAs (va_wsS RX5 77 yX5_topOf wsX5_topOf) := goodIn_app (goodIn_of _ (by decide +kernel)) ggX5_topsAs_X5_topOf
set_option maxRecDepth 20000 in
theorem ggX5_topsAs_X5_putTop : GoodIn wsX5_topsAs wsX5_putTop := goodIn_r _ [16, 17, 18, 19, 20, 21, 22, 23] (by decide +kernel) (by decide +kernel)
set_option maxRecDepth 20000 in
theorem gX5_topsAs_X5_putTop : GoodIn wsX5_topsAs (wsV RX5 81 RX5 yX5_putTop wsX5_putTop) := goodIn_app (goodIn_of _ (by decide +kernel)) ggX5_topsAs_X5_putTop
theorem dX5_topsAs_0 : decode cX5_topsAs 0 = .ok (.iconst 0, 1) := by decide +kernel
theorem dX5_topsAs_1 : decode cX5_topsAs 1 = .ok (.istore_n 2, 1) := by decide +kernel
theorem dX5_topsAs_2 : decode cX5_topsAs 2 = .ok (.iconst 0, 1) := by decide +kernel
theorem dX5_topsAs_3 : decode cX5_topsAs 3 = .ok (.istore_n 3, 1) := by decide +kernel
theorem dX5_topsAs_4 : decode cX5_topsAs 4 = .ok (.iload_n 3, 1) := by decide +kernel
theorem dX5_topsAs_5 : decode cX5_topsAs 5 = .ok (.aload_n 0, 1) := by decide +kernel
theorem dX5_topsAs_6 : decode cX5_topsAs 6 = .ok (.getfield 26, 3) := by decide +kernel
theorem dX5_topsAs_9 : decode cX5_topsAs 9 = .ok (.invokevirtual 73, 3) := by decide +kernel
theorem dX5_topsAs_12 : decode cX5_topsAs 12 = .ok (.if_icmp .ge 31, 3) := by decide +kernel
theorem dX5_topsAs_15 : decode cX5_topsAs 15 = .ok (.aload_n 1, 1) := by decide +kernel
theorem dX5_topsAs_16 : decode cX5_topsAs 16 = .ok (.iload_n 3, 1) := by decide +kernel
theorem dX5_topsAs_17 : decode cX5_topsAs 17 = .ok (.invokestatic 77, 3) := by decide +kernel
theorem dX5_topsAs_20 : decode cX5_topsAs 20 = .ok (.istore 4, 2) := by decide +kernel
theorem dX5_topsAs_22 : decode cX5_topsAs 22 = .ok (.aload_n 0, 1) := by decide +kernel
theorem dX5_topsAs_23 : decode cX5_topsAs 23 = .ok (.iload_n 3, 1) := by decide +kernel
theorem dX5_topsAs_24 : decode cX5_topsAs 24 = .ok (.iload 4, 2) := by decide +kernel
theorem dX5_topsAs_26 : decode cX5_topsAs 26 = .ok (.invokevirtual 81, 3) := by decide +kernel
theorem dX5_topsAs_29 : decode cX5_topsAs 29 = .ok (.iload 4, 2) := by decide +kernel
theorem dX5_topsAs_31 : decode cX5_topsAs 31 = .ok (.if_icmp .eq 6, 3) := by decide +kernel
theorem dX5_topsAs_34 : decode cX5_topsAs 34 = .ok (.iinc 2 1, 3) := by decide +kernel
theorem dX5_topsAs_37 : decode cX5_topsAs 37 = .ok (.iinc 3 1, 3) := by decide +kernel
theorem dX5_topsAs_40 : decode cX5_topsAs 40 = .ok (.goto (-36), 3) := by decide +kernel
theorem dX5_topsAs_43 : decode cX5_topsAs 43 = .ok (.iload_n 2, 1) := by decide +kernel
theorem dX5_topsAs_44 : decode cX5_topsAs 44 = .ok (.ireturn, 1) := by decide +kernel
theorem dX5_topOf_0 : decode cX5_topOf 0 = .ok (.aload_n 0, 1) := by decide +kernel
theorem dX5_topOf_1 : decode cX5_topOf 1 = .ok (.iload_n 1, 1) := by decide +kernel
theorem dX5_topOf_2 : decode cX5_topOf 2 = .ok (.iaload, 1) := by decide +kernel
theorem dX5_topOf_3 : decode cX5_topOf 3 = .ok (.ifCond .le 7, 3) := by decide +kernel
theorem dX5_topOf_6 : decode cX5_topOf 6 = .ok (.iconst 1, 1) := by decide +kernel
theorem dX5_topOf_7 : decode cX5_topOf 7 = .ok (.goto 4, 3) := by decide +kernel
theorem dX5_topOf_10 : decode cX5_topOf 10 = .ok (.iconst 0, 1) := by decide +kernel
theorem dX5_topOf_11 : decode cX5_topOf 11 = .ok (.ireturn, 1) := by decide +kernel
set_option maxRecDepth 20000 in
theorem ggX5_agrees_X5_linesAgree : GoodIn wsX5_agrees wsX5_linesAgree := goodIn_r _ [5, 6, 7, 8, 9, 10, 11, 12, 13, 14, 15, 16, 17, 4, 18, 19, 20, 21, 22, 23, 24, 25, 26, 27, 28, 29, 30, 31, 32, 33, 34, 35, 36, 37, 38, 39, 40, 41, 42, 43, 44, 57, 58, 59, 60, 61, 62, 63, 64, 65, 66, 67, 68, 69, 70, 71, 72] (by decide +kernel) (by decide +kernel)
set_option maxRecDepth 20000 in
theorem gX5_agrees_X5_linesAgree : GoodIn wsX5_agrees (wsV RX5 85 RX5 yX5_linesAgree wsX5_linesAgree) := goodIn_app (goodIn_of _ (by decide +kernel)) ggX5_agrees_X5_linesAgree
set_option maxRecDepth 20000 in
theorem ggX5_agrees_X5_topsAgree : GoodIn wsX5_agrees wsX5_topsAgree := goodIn_r _ [48, 6, 49, 50, 51, 52, 11, 53, 13, 14, 54, 55, 4, 56, 57, 58, 59, 60, 61, 62, 63, 64, 65, 66] (by decide +kernel) (by decide +kernel)
set_option maxRecDepth 20000 in
theorem gX5_agrees_X5_topsAgree : GoodIn wsX5_agrees (wsV RX5 89 RX5 yX5_topsAgree wsX5_topsAgree) := goodIn_app (goodIn_of _ (by decide +kernel)) ggX5_agrees_X5_topsAgree
theorem dX5_agrees_0 : decode cX5_agrees 0 = .ok (.aload_n 0, 1) := by decide +kernel
theorem dX5_agrees_1 : decode cX5_agrees 1 = .ok (.aload_n 1, 1) := by decide +kernel
theorem dX5_agrees_2 : decode cX5_agrees 2 = .ok (.iconst 1, 1) := by decide +kernel
theorem dX5_agrees_3 : decode cX5_agrees 3 = .ok (.invokevirtual 85, 3) := by decide +kernel
theorem dX5_agrees_6 : decode cX5_agrees 6 = .ok (.ifCond .eq 24, 3) := by decide +kernel
theorem dX5_agrees_9 : decode cX5_agrees 9 = .ok (.aload_n 0, 1) := by decide +kernel
theorem dX5_agrees_10 : decode cX5_agrees 10 = .ok (.aload_n 1, 1) := by decide +kernel
theorem dX5_agrees_11 : decode cX5_agrees 11 = .ok (.iconst 0, 1) := by decide +kernel
theorem dX5_agrees_12 : decode cX5_agrees 12 = .ok (.invokevirtual 85, 3) := by decide +kernel
theorem dX5_agrees_15 : decode cX5_agrees 15 = .ok (.ifCond .eq 15, 3) := by decide +kernel
theorem dX5_agrees_18 : decode cX5_agrees 18 = .ok (.aload_n 0, 1) := by decide +kernel
theorem dX5_agrees_19 : decode cX5_agrees 19 = .ok (.aload_n 1, 1) := by decide +kernel
theorem dX5_agrees_20 : decode cX5_agrees 20 = .ok (.invokevirtual 89, 3) := by decide +kernel
theorem dX5_agrees_23 : decode cX5_agrees 23 = .ok (.ifCond .eq 7, 3) := by decide +kernel
theorem dX5_agrees_26 : decode cX5_agrees 26 = .ok (.iconst 1, 1) := by decide +kernel
theorem dX5_agrees_27 : decode cX5_agrees 27 = .ok (.goto 4, 3) := by decide +kernel
theorem dX5_agrees_30 : decode cX5_agrees 30 = .ok (.iconst 0, 1) := by decide +kernel
theorem dX5_agrees_31 : decode cX5_agrees 31 = .ok (.ireturn, 1) := by decide +kernel
set_option maxRecDepth 20000 in
theorem ggX5_linesAgree_X2_lines : GoodIn wsX5_linesAgree wsX2_lines := goodIn_r _ [7, 8, 9, 46, 47, 48, 49, 50] (by decide +kernel) (by decide +kernel)
set_option maxRecDepth 20000 in
theorem gX5_linesAgree_X2_lines : GoodIn wsX5_linesAgree (wsV RX5 59 RX2 yX2_lines wsX2_lines) := goodIn_app (goodIn_of _ (by decide +kernel)) ggX5_linesAgree_X2_lines
set_option maxRecDepth 20000 in
theorem ggX5_linesAgree_X5_line : GoodIn wsX5_linesAgree wsX5_line := goodIn_r _ [14, 15, 16, 17, 18, 19, 20, 21, 22, 41, 42, 43, 44, 45, 51, 52] (by decide +kernel) (by decide +kernel)
set_option maxRecDepth 20000 in
theorem gX5_linesAgree_X5_line : GoodIn wsX5_linesAgree (wsV RX5 93 RX5 yX5_line wsX5_line) := goodIn_app (goodIn_of _ (by decide +kernel)) ggX5_linesAgree_X5_line
set_option maxRecDepth 20000 in
theorem ggX5_linesAgree_X7_tallest : GoodIn wsX5_linesAgree wsX7_tallest := goodIn_r _ [27, 28, 29, 30, 31, 32, 33, 34, 35, 6, 36, 9, 8, 37, 38, 39, 40, 53, 54, 55, 56, 46, 47, 48, 49, 50] (by decide +kernel) (by decide +kernel)
set_option maxRecDepth 20000 in
theorem gX5_linesAgree_X7_tallest : GoodIn wsX5_linesAgree (wsV RX5 65 RX7 yX7_tallest wsX7_tallest) := goodIn_app (goodIn_of _ (by decide +kernel)) ggX5_linesAgree_X7_tallest
theorem dX5_linesAgree_0 : decode cX5_linesAgree 0 = .ok (.iconst 0, 1) := by decide +kernel
theorem dX5_linesAgree_1 : decode cX5_linesAgree 1 = .ok (.istore_n 3, 1) := by decide +kernel
theorem dX5_linesAgree_2 : decode cX5_linesAgree 2 = .ok (.iload_n 3, 1) := by decide +kernel
theorem dX5_linesAgree_3 : decode cX5_linesAgree 3 = .ok (.aload_n 0, 1) := by decide +kernel
theorem dX5_linesAgree_4 : decode cX5_linesAgree 4 = .ok (.getfield 26, 3) := by decide +kernel
theorem dX5_linesAgree_7 : decode cX5_linesAgree 7 = .ok (.iload_n 2, 1) := by decide +kernel
theorem dX5_linesAgree_8 : decode cX5_linesAgree 8 = .ok (.invokevirtual 59, 3) := by decide +kernel
theorem dX5_linesAgree_11 : decode cX5_linesAgree 11 = .ok (.if_icmp .ge 41, 3) := by decide +kernel
theorem dX5_linesAgree_14 : decode cX5_linesAgree 14 = .ok (.aload_n 0, 1) := by decide +kernel
theorem dX5_linesAgree_15 : decode cX5_linesAgree 15 = .ok (.iload_n 2, 1) := by decide +kernel
theorem dX5_linesAgree_16 : decode cX5_linesAgree 16 = .ok (.iload_n 3, 1) := by decide +kernel
theorem dX5_linesAgree_17 : decode cX5_linesAgree 17 = .ok (.invokevirtual 93, 3) := by decide +kernel
theorem dX5_linesAgree_20 : decode cX5_linesAgree 20 = .ok (.istore 4, 2) := by decide +kernel
theorem dX5_linesAgree_22 : decode cX5_linesAgree 22 = .ok (.iload 4, 2) := by decide +kernel
theorem dX5_linesAgree_24 : decode cX5_linesAgree 24 = .ok (.bipush (-9), 2) := by decide +kernel
theorem dX5_linesAgree_26 : decode cX5_linesAgree 26 = .ok (.if_icmp .eq 20, 3) := by decide +kernel
theorem dX5_linesAgree_29 : decode cX5_linesAgree 29 = .ok (.iload 4, 2) := by decide +kernel
theorem dX5_linesAgree_31 : decode cX5_linesAgree 31 = .ok (.aload_n 0, 1) := by decide +kernel
theorem dX5_linesAgree_32 : decode cX5_linesAgree 32 = .ok (.getfield 30, 3) := by decide +kernel
theorem dX5_linesAgree_35 : decode cX5_linesAgree 35 = .ok (.aload_n 1, 1) := by decide +kernel
theorem dX5_linesAgree_36 : decode cX5_linesAgree 36 = .ok (.iload_n 2, 1) := by decide +kernel
theorem dX5_linesAgree_37 : decode cX5_linesAgree 37 = .ok (.iload_n 3, 1) := by decide +kernel
theorem dX5_linesAgree_38 : decode cX5_linesAgree 38 = .ok (.invokevirtual 65, 3) := by decide +kernel
theorem dX5_linesAgree_41 : decode cX5_linesAgree 41 = .ok (.if_icmp .eq 5, 3) := by decide +kernel
theorem dX5_linesAgree_44 : decode cX5_linesAgree 44 = .ok (.iconst 0, 1) := by decide +kernel
theorem dX5_linesAgree_45 : decode cX5_linesAgree 45 = .ok (.ireturn, 1) := by decide +kernel
theorem dX5_linesAgree_46 : decode cX5_linesAgree 46 = .ok (.iinc 3 1, 3) := by decide +kernel
theorem dX5_linesAgree_49 : decode cX5_linesAgree 49 = .ok (.goto (-47), 3) := by decide +kernel
theorem dX5_linesAgree_52 : decode cX5_linesAgree 52 = .ok (.iconst 1, 1) := by decide +kernel
theorem dX5_linesAgree_53 : decode cX5_linesAgree 53 = .ok (.ireturn, 1) := by decide +kernel
set_option maxRecDepth 20000 in
theorem ggX5_topsAgree_X2_cells : GoodIn wsX5_topsAgree wsX2_cells := goodIn_r _ [7, 8, 9, 19, 20, 21, 22, 23] (by decide +kernel) (by decide +kernel)
set_option maxRecDepth 20000 in
theorem gX5_topsAgree_X2_cells : GoodIn wsX5_topsAgree (wsV RX5 73 RX2 yX2_cells wsX2_cells) := goodIn_app (goodIn_of _ (by decide +kernel)) ggX5_topsAgree_X2_cells
set_option maxRecDepth 20000 in
theorem ggX5_topsAgree_X5_topOf : GoodIn wsX5_topsAgree wsX5_topOf := goodIn_r _ [13] (by decide +kernel) (by decide +kernel)
set_option maxRecDepth 20000 in
theorem gX5_topsAgree_X5_topOf : GoodIn wsX5_topsAgree (va_wsS RX5 77 yX5_topOf wsX5_topOf) := goodIn_app (goodIn_of _ (by decide +kernel)) ggX5_topsAgree_X5_topOf
theorem dX5_topsAgree_0 : decode cX5_topsAgree 0 = .ok (.iconst 0, 1) := by decide +kernel
theorem dX5_topsAgree_1 : decode cX5_topsAgree 1 = .ok (.istore_n 2, 1) := by decide +kernel
theorem dX5_topsAgree_2 : decode cX5_topsAgree 2 = .ok (.iload_n 2, 1) := by decide +kernel
theorem dX5_topsAgree_3 : decode cX5_topsAgree 3 = .ok (.aload_n 0, 1) := by decide +kernel
theorem dX5_topsAgree_4 : decode cX5_topsAgree 4 = .ok (.getfield 26, 3) := by decide +kernel
theorem dX5_topsAgree_7 : decode cX5_topsAgree 7 = .ok (.invokevirtual 73, 3) := by decide +kernel
theorem dX5_topsAgree_10 : decode cX5_topsAgree 10 = .ok (.if_icmp .ge 36, 3) := by decide +kernel
theorem dX5_topsAgree_13 : decode cX5_topsAgree 13 = .ok (.aload_n 0, 1) := by decide +kernel
theorem dX5_topsAgree_14 : decode cX5_topsAgree 14 = .ok (.getfield 18, 3) := by decide +kernel
theorem dX5_topsAgree_17 : decode cX5_topsAgree 17 = .ok (.iload_n 2, 1) := by decide +kernel
theorem dX5_topsAgree_18 : decode cX5_topsAgree 18 = .ok (.iaload, 1) := by decide +kernel
theorem dX5_topsAgree_19 : decode cX5_topsAgree 19 = .ok (.bipush (-9), 2) := by decide +kernel
theorem dX5_topsAgree_21 : decode cX5_topsAgree 21 = .ok (.if_icmp .eq 19, 3) := by decide +kernel
theorem dX5_topsAgree_24 : decode cX5_topsAgree 24 = .ok (.aload_n 0, 1) := by decide +kernel
theorem dX5_topsAgree_25 : decode cX5_topsAgree 25 = .ok (.getfield 18, 3) := by decide +kernel
theorem dX5_topsAgree_28 : decode cX5_topsAgree 28 = .ok (.iload_n 2, 1) := by decide +kernel
theorem dX5_topsAgree_29 : decode cX5_topsAgree 29 = .ok (.iaload, 1) := by decide +kernel
theorem dX5_topsAgree_30 : decode cX5_topsAgree 30 = .ok (.aload_n 1, 1) := by decide +kernel
theorem dX5_topsAgree_31 : decode cX5_topsAgree 31 = .ok (.iload_n 2, 1) := by decide +kernel
theorem dX5_topsAgree_32 : decode cX5_topsAgree 32 = .ok (.invokestatic 77, 3) := by decide +kernel
theorem dX5_topsAgree_35 : decode cX5_topsAgree 35 = .ok (.if_icmp .eq 5, 3) := by decide +kernel
theorem dX5_topsAgree_38 : decode cX5_topsAgree 38 = .ok (.iconst 0, 1) := by decide +kernel
theorem dX5_topsAgree_39 : decode cX5_topsAgree 39 = .ok (.ireturn, 1) := by decide +kernel
theorem dX5_topsAgree_40 : decode cX5_topsAgree 40 = .ok (.iinc 2 1, 3) := by decide +kernel
theorem dX5_topsAgree_43 : decode cX5_topsAgree 43 = .ok (.goto (-41), 3) := by decide +kernel
theorem dX5_topsAgree_46 : decode cX5_topsAgree 46 = .ok (.iconst 1, 1) := by decide +kernel
theorem dX5_topsAgree_47 : decode cX5_topsAgree 47 = .ok (.ireturn, 1) := by decide +kernel
set_option maxRecDepth 20000 in
theorem ggX5_linesTold_X5_countTold : GoodIn wsX5_linesTold wsX5_countTold := goodIn_r _ [5, 6, 7, 8, 9, 10, 11, 12, 13, 14, 15, 16, 4, 17, 18, 19, 20, 21, 22, 23, 24, 25, 26, 27, 28, 29, 30, 31, 32, 33, 34, 35, 36, 37] (by decide +kernel) (by decide +kernel)
set_option maxRecDepth 20000 in
theorem gX5_linesTold_X5_countTold : GoodIn wsX5_linesTold (wsV RX5 96 RX5 yX5_countTold wsX5_countTold) := goodIn_app (goodIn_of _ (by decide +kernel)) ggX5_linesTold_X5_countTold
theorem dX5_linesTold_0 : decode cX5_linesTold 0 = .ok (.aload_n 0, 1) := by decide +kernel
theorem dX5_linesTold_1 : decode cX5_linesTold 1 = .ok (.iconst 1, 1) := by decide +kernel
theorem dX5_linesTold_2 : decode cX5_linesTold 2 = .ok (.invokevirtual 96, 3) := by decide +kernel
theorem dX5_linesTold_5 : decode cX5_linesTold 5 = .ok (.aload_n 0, 1) := by decide +kernel
theorem dX5_linesTold_6 : decode cX5_linesTold 6 = .ok (.iconst 0, 1) := by decide +kernel
theorem dX5_linesTold_7 : decode cX5_linesTold 7 = .ok (.invokevirtual 96, 3) := by decide +kernel
theorem dX5_linesTold_10 : decode cX5_linesTold 10 = .ok (.iadd, 1) := by decide +kernel
theorem dX5_linesTold_11 : decode cX5_linesTold 11 = .ok (.ireturn, 1) := by decide +kernel
set_option maxRecDepth 20000 in
theorem ggX5_countTold_X2_lines : GoodIn wsX5_countTold wsX2_lines := goodIn_r _ [6, 7, 8, 27, 28, 29, 30, 31] (by decide +kernel) (by decide +kernel)
set_option maxRecDepth 20000 in
theorem gX5_countTold_X2_lines : GoodIn wsX5_countTold (wsV RX5 59 RX2 yX2_lines wsX2_lines) := goodIn_app (goodIn_of _ (by decide +kernel)) ggX5_countTold_X2_lines
set_option maxRecDepth 20000 in
theorem ggX5_countTold_X5_line : GoodIn wsX5_countTold wsX5_line := goodIn_r _ [13, 14, 15, 16, 17, 18, 19, 20, 21, 22, 23, 24, 25, 26, 32, 33] (by decide +kernel) (by decide +kernel)
set_option maxRecDepth 20000 in
theorem gX5_countTold_X5_line : GoodIn wsX5_countTold (wsV RX5 93 RX5 yX5_line wsX5_line) := goodIn_app (goodIn_of _ (by decide +kernel)) ggX5_countTold_X5_line
theorem dX5_countTold_0 : decode cX5_countTold 0 = .ok (.iconst 0, 1) := by decide +kernel
theorem dX5_countTold_1 : decode cX5_countTold 1 = .ok (.istore_n 2, 1) := by decide +kernel
theorem dX5_countTold_2 : decode cX5_countTold 2 = .ok (.iconst 0, 1) := by decide +kernel
theorem dX5_countTold_3 : decode cX5_countTold 3 = .ok (.istore_n 3, 1) := by decide +kernel
theorem dX5_countTold_4 : decode cX5_countTold 4 = .ok (.iload_n 3, 1) := by decide +kernel
theorem dX5_countTold_5 : decode cX5_countTold 5 = .ok (.aload_n 0, 1) := by decide +kernel
theorem dX5_countTold_6 : decode cX5_countTold 6 = .ok (.getfield 26, 3) := by decide +kernel
theorem dX5_countTold_9 : decode cX5_countTold 9 = .ok (.iload_n 1, 1) := by decide +kernel
theorem dX5_countTold_10 : decode cX5_countTold 10 = .ok (.invokevirtual 59, 3) := by decide +kernel
theorem dX5_countTold_13 : decode cX5_countTold 13 = .ok (.if_icmp .ge 23, 3) := by decide +kernel
theorem dX5_countTold_16 : decode cX5_countTold 16 = .ok (.aload_n 0, 1) := by decide +kernel
theorem dX5_countTold_17 : decode cX5_countTold 17 = .ok (.iload_n 1, 1) := by decide +kernel
theorem dX5_countTold_18 : decode cX5_countTold 18 = .ok (.iload_n 3, 1) := by decide +kernel
theorem dX5_countTold_19 : decode cX5_countTold 19 = .ok (.invokevirtual 93, 3) := by decide +kernel
theorem dX5_countTold_22 : decode cX5_countTold 22 = .ok (.bipush (-9), 2) := by decide +kernel
theorem dX5_countTold_24 : decode cX5_countTold 24 = .ok (.if_icmp .eq 6, 3) := by decide +kernel
theorem dX5_countTold_27 : decode cX5_countTold 27 = .ok (.iinc 2 1, 3) := by decide +kernel
theorem dX5_countTold_30 : decode cX5_countTold 30 = .ok (.iinc 3 1, 3) := by decide +kernel
theorem dX5_countTold_33 : decode cX5_countTold 33 = .ok (.goto (-29), 3) := by decide +kernel
theorem dX5_countTold_36 : decode cX5_countTold 36 = .ok (.iload_n 2, 1) := by decide +kernel
theorem dX5_countTold_37 : decode cX5_countTold 37 = .ok (.ireturn, 1) := by decide +kernel
set_option maxRecDepth 20000 in
theorem ggX5_topsTold_X2_cells : GoodIn wsX5_topsTold wsX2_cells := goodIn_r _ [7, 8, 9, 15, 16, 17, 18, 19] (by decide +kernel) (by decide +kernel)
set_option maxRecDepth 20000 in
theorem gX5_topsTold_X2_cells : GoodIn wsX5_topsTold (wsV RX5 73 RX2 yX2_cells wsX2_cells) := goodIn_app (goodIn_of _ (by decide +kernel)) ggX5_topsTold_X2_cells
theorem dX5_topsTold_0 : decode cX5_topsTold 0 = .ok (.iconst 0, 1) := by decide +kernel
theorem dX5_topsTold_1 : decode cX5_topsTold 1 = .ok (.istore_n 1, 1) := by decide +kernel
theorem dX5_topsTold_2 : decode cX5_topsTold 2 = .ok (.iconst 0, 1) := by decide +kernel
theorem dX5_topsTold_3 : decode cX5_topsTold 3 = .ok (.istore_n 2, 1) := by decide +kernel
theorem dX5_topsTold_4 : decode cX5_topsTold 4 = .ok (.iload_n 2, 1) := by decide +kernel
theorem dX5_topsTold_5 : decode cX5_topsTold 5 = .ok (.aload_n 0, 1) := by decide +kernel
theorem dX5_topsTold_6 : decode cX5_topsTold 6 = .ok (.getfield 26, 3) := by decide +kernel
theorem dX5_topsTold_9 : decode cX5_topsTold 9 = .ok (.invokevirtual 73, 3) := by decide +kernel
theorem dX5_topsTold_12 : decode cX5_topsTold 12 = .ok (.if_icmp .ge 23, 3) := by decide +kernel
theorem dX5_topsTold_15 : decode cX5_topsTold 15 = .ok (.aload_n 0, 1) := by decide +kernel
theorem dX5_topsTold_16 : decode cX5_topsTold 16 = .ok (.getfield 18, 3) := by decide +kernel
theorem dX5_topsTold_19 : decode cX5_topsTold 19 = .ok (.iload_n 2, 1) := by decide +kernel
theorem dX5_topsTold_20 : decode cX5_topsTold 20 = .ok (.iaload, 1) := by decide +kernel
theorem dX5_topsTold_21 : decode cX5_topsTold 21 = .ok (.bipush (-9), 2) := by decide +kernel
theorem dX5_topsTold_23 : decode cX5_topsTold 23 = .ok (.if_icmp .eq 6, 3) := by decide +kernel
theorem dX5_topsTold_26 : decode cX5_topsTold 26 = .ok (.iinc 1 1, 3) := by decide +kernel
theorem dX5_topsTold_29 : decode cX5_topsTold 29 = .ok (.iinc 2 1, 3) := by decide +kernel
theorem dX5_topsTold_32 : decode cX5_topsTold 32 = .ok (.goto (-28), 3) := by decide +kernel
theorem dX5_topsTold_35 : decode cX5_topsTold 35 = .ok (.iload_n 1, 1) := by decide +kernel
theorem dX5_topsTold_36 : decode cX5_topsTold 36 = .ok (.ireturn, 1) := by decide +kernel
theorem dX6_init_0 : decode cX6_init 0 = .ok (.aload_n 0, 1) := by decide +kernel
theorem dX6_init_1 : decode cX6_init 1 = .ok (.invokespecial 3, 3) := by decide +kernel
theorem dX6_init_4 : decode cX6_init 4 = .ok (.aload_n 0, 1) := by decide +kernel
theorem dX6_init_5 : decode cX6_init 5 = .ok (.bipush 25, 2) := by decide +kernel
theorem dX6_init_7 : decode cX6_init 7 = .ok (.newarray .int, 2) := by decide +kernel
theorem dX6_init_9 : decode cX6_init 9 = .ok (.putfield 9, 3) := by decide +kernel
theorem dX6_init_12 : decode cX6_init 12 = .ok (.aload_n 0, 1) := by decide +kernel
theorem dX6_init_13 : decode cX6_init 13 = .ok (.bipush 25, 2) := by decide +kernel
theorem dX6_init_15 : decode cX6_init 15 = .ok (.newarray .int, 2) := by decide +kernel
theorem dX6_init_17 : decode cX6_init 17 = .ok (.putfield 15, 3) := by decide +kernel
theorem dX6_init_20 : decode cX6_init 20 = .ok (.aload_n 0, 1) := by decide +kernel
theorem dX6_init_21 : decode cX6_init 21 = .ok (.aload_n 1, 1) := by decide +kernel
theorem dX6_init_22 : decode cX6_init 22 = .ok (.putfield 18, 3) := by decide +kernel
theorem dX6_init_25 : decode cX6_init 25 = .ok (.return_, 1) := by decide +kernel
set_option maxRecDepth 20000 in
theorem ggX6_keepsGround_X2_lines : GoodIn wsX6_keepsGround wsX2_lines := goodIn_r _ [6, 7, 8, 12, 13, 14, 15, 16] (by decide +kernel) (by decide +kernel)
set_option maxRecDepth 20000 in
theorem gX6_keepsGround_X2_lines : GoodIn wsX6_keepsGround (wsV RX6 22 RX2 yX2_lines wsX2_lines) := goodIn_app (goodIn_of _ (by decide +kernel)) ggX6_keepsGround_X2_lines
theorem dX6_keepsGround_0 : decode cX6_keepsGround 0 = .ok (.iload_n 1, 1) := by decide +kernel
theorem dX6_keepsGround_1 : decode cX6_keepsGround 1 = .ok (.iconst 2, 1) := by decide +kernel
theorem dX6_keepsGround_2 : decode cX6_keepsGround 2 = .ok (.irem, 1) := by decide +kernel
theorem dX6_keepsGround_3 : decode cX6_keepsGround 3 = .ok (.ifCond .eq 22, 3) := by decide +kernel
theorem dX6_keepsGround_6 : decode cX6_keepsGround 6 = .ok (.aload_n 0, 1) := by decide +kernel
theorem dX6_keepsGround_7 : decode cX6_keepsGround 7 = .ok (.getfield 18, 3) := by decide +kernel
theorem dX6_keepsGround_10 : decode cX6_keepsGround 10 = .ok (.iconst 1, 1) := by decide +kernel
theorem dX6_keepsGround_11 : decode cX6_keepsGround 11 = .ok (.invokevirtual 22, 3) := by decide +kernel
theorem dX6_keepsGround_14 : decode cX6_keepsGround 14 = .ok (.aload_n 0, 1) := by decide +kernel
theorem dX6_keepsGround_15 : decode cX6_keepsGround 15 = .ok (.getfield 18, 3) := by decide +kernel
theorem dX6_keepsGround_18 : decode cX6_keepsGround 18 = .ok (.iconst 0, 1) := by decide +kernel
theorem dX6_keepsGround_19 : decode cX6_keepsGround 19 = .ok (.invokevirtual 22, 3) := by decide +kernel
theorem dX6_keepsGround_22 : decode cX6_keepsGround 22 = .ok (.if_icmp .ne 7, 3) := by decide +kernel
theorem dX6_keepsGround_25 : decode cX6_keepsGround 25 = .ok (.iconst 1, 1) := by decide +kernel
theorem dX6_keepsGround_26 : decode cX6_keepsGround 26 = .ok (.goto 4, 3) := by decide +kernel
theorem dX6_keepsGround_29 : decode cX6_keepsGround 29 = .ok (.iconst 0, 1) := by decide +kernel
theorem dX6_keepsGround_30 : decode cX6_keepsGround 30 = .ok (.ireturn, 1) := by decide +kernel
set_option maxRecDepth 20000 in
theorem ggX6_apply_X6_turnTo : GoodIn wsX6_apply wsX6_turnTo := goodIn_r _ [7, 2, 8, 9, 10, 11, 12, 13, 14, 15, 16, 17, 6, 18, 19, 20, 21, 22, 23, 24, 25, 26, 27, 28, 29, 30, 31, 32, 33, 34, 35, 36, 42, 43, 44, 45, 46, 47, 48, 49] (by decide +kernel) (by decide +kernel)
set_option maxRecDepth 20000 in
theorem gX6_apply_X6_turnTo : GoodIn wsX6_apply (wsV RX6 28 RX6 yX6_turnTo wsX6_turnTo) := goodIn_app (goodIn_of _ (by decide +kernel)) ggX6_apply_X6_turnTo
set_option maxRecDepth 20000 in
theorem ggX6_apply_X2_overwrite : GoodIn wsX6_apply wsX2_overwrite := goodIn_r _ [40, 41, 9, 10, 11, 12, 13, 14, 45, 46, 47, 48, 49] (by decide +kernel) (by decide +kernel)
set_option maxRecDepth 20000 in
theorem gX6_apply_X2_overwrite : GoodIn wsX6_apply (wsV RX6 32 RX2 yX2_overwrite wsX2_overwrite) := goodIn_app (goodIn_of _ (by decide +kernel)) ggX6_apply_X2_overwrite
theorem dX6_apply_0 : decode cX6_apply 0 = .ok (.aload_n 0, 1) := by decide +kernel
theorem dX6_apply_1 : decode cX6_apply 1 = .ok (.aload_n 1, 1) := by decide +kernel
theorem dX6_apply_2 : decode cX6_apply 2 = .ok (.iload_n 2, 1) := by decide +kernel
theorem dX6_apply_3 : decode cX6_apply 3 = .ok (.aload_n 0, 1) := by decide +kernel
theorem dX6_apply_4 : decode cX6_apply 4 = .ok (.getfield 9, 3) := by decide +kernel
theorem dX6_apply_7 : decode cX6_apply 7 = .ok (.invokevirtual 28, 3) := by decide +kernel
theorem dX6_apply_10 : decode cX6_apply 10 = .ok (.aload_n 0, 1) := by decide +kernel
theorem dX6_apply_11 : decode cX6_apply 11 = .ok (.getfield 18, 3) := by decide +kernel
theorem dX6_apply_14 : decode cX6_apply 14 = .ok (.aload_n 0, 1) := by decide +kernel
theorem dX6_apply_15 : decode cX6_apply 15 = .ok (.getfield 9, 3) := by decide +kernel
theorem dX6_apply_18 : decode cX6_apply 18 = .ok (.aload_n 1, 1) := by decide +kernel
theorem dX6_apply_19 : decode cX6_apply 19 = .ok (.invokevirtual 32, 3) := by decide +kernel
theorem dX6_apply_22 : decode cX6_apply 22 = .ok (.ireturn, 1) := by decide +kernel
set_option maxRecDepth 20000 in
theorem ggX6_turnsBetween_X6_keepsGround : GoodIn wsX6_turnsBetween wsX6_keepsGround := goodIn_r _ [7, 2, 8, 9, 10, 11, 12, 13, 14, 46, 47, 48, 49, 50, 51, 52, 53] (by decide +kernel) (by decide +kernel)
set_option maxRecDepth 20000 in
theorem gX6_turnsBetween_X6_keepsGround : GoodIn wsX6_turnsBetween (wsV RX6 36 RX6 yX6_keepsGround wsX6_keepsGround) := goodIn_app (goodIn_of _ (by decide +kernel)) ggX6_turnsBetween_X6_keepsGround
set_option maxRecDepth 20000 in
theorem ggX6_turnsBetween_X6_turnTo : GoodIn wsX6_turnsBetween wsX6_turnTo := goodIn_r _ [18, 2, 19, 20, 21, 11, 22, 13, 14, 23, 24, 25, 6, 26, 8, 9, 10, 12, 27, 28, 29, 30, 31, 32, 33, 34, 35, 36, 37, 38, 39, 40, 46, 47, 48, 49, 50, 51, 52, 53] (by decide +kernel) (by decide +kernel)
set_option maxRecDepth 20000 in
theorem gX6_turnsBetween_X6_turnTo : GoodIn wsX6_turnsBetween (wsV RX6 28 RX6 yX6_turnTo wsX6_turnTo) := goodIn_app (goodIn_of _ (by decide +kernel)) ggX6_turnsBetween_X6_turnTo
set_option maxRecDepth 20000 in
theorem ggX6_turnsBetween_X2_compare : GoodIn wsX6_turnsBetween wsX2_compare := goodIn_r _ [44, 45, 20, 21, 11, 22, 13, 14, 49, 50, 51, 52, 53] (by decide +kernel) (by decide +kernel)
set_option maxRecDepth 20000 in
theorem gX6_turnsBetween_X2_compare : GoodIn wsX6_turnsBetween (wsV RX6 40 RX2 yX2_compare wsX2_compare) := goodIn_app (goodIn_of _ (by decide +kernel)) ggX6_turnsBetween_X2_compare
theorem dX6_turnsBetween_0 : decode cX6_turnsBetween 0 = .ok (.iconst 0, 1) := by decide +kernel
theorem dX6_turnsBetween_1 : decode cX6_turnsBetween 1 = .ok (.istore_n 3, 1) := by decide +kernel
theorem dX6_turnsBetween_2 : decode cX6_turnsBetween 2 = .ok (.iconst 0, 1) := by decide +kernel
theorem dX6_turnsBetween_3 : decode cX6_turnsBetween 3 = .ok (.istore 4, 2) := by decide +kernel
theorem dX6_turnsBetween_5 : decode cX6_turnsBetween 5 = .ok (.iload 4, 2) := by decide +kernel
theorem dX6_turnsBetween_7 : decode cX6_turnsBetween 7 = .ok (.bipush 8, 2) := by decide +kernel
theorem dX6_turnsBetween_9 : decode cX6_turnsBetween 9 = .ok (.if_icmp .ge 50, 3) := by decide +kernel
theorem dX6_turnsBetween_12 : decode cX6_turnsBetween 12 = .ok (.aload_n 0, 1) := by decide +kernel
theorem dX6_turnsBetween_13 : decode cX6_turnsBetween 13 = .ok (.iload 4, 2) := by decide +kernel
theorem dX6_turnsBetween_15 : decode cX6_turnsBetween 15 = .ok (.invokevirtual 36, 3) := by decide +kernel
theorem dX6_turnsBetween_18 : decode cX6_turnsBetween 18 = .ok (.ifCond .ne 6, 3) := by decide +kernel
theorem dX6_turnsBetween_21 : decode cX6_turnsBetween 21 = .ok (.goto 32, 3) := by decide +kernel
theorem dX6_turnsBetween_24 : decode cX6_turnsBetween 24 = .ok (.aload_n 0, 1) := by decide +kernel
theorem dX6_turnsBetween_25 : decode cX6_turnsBetween 25 = .ok (.aload_n 1, 1) := by decide +kernel
theorem dX6_turnsBetween_26 : decode cX6_turnsBetween 26 = .ok (.iload 4, 2) := by decide +kernel
theorem dX6_turnsBetween_28 : decode cX6_turnsBetween 28 = .ok (.aload_n 0, 1) := by decide +kernel
theorem dX6_turnsBetween_29 : decode cX6_turnsBetween 29 = .ok (.getfield 9, 3) := by decide +kernel
theorem dX6_turnsBetween_32 : decode cX6_turnsBetween 32 = .ok (.invokevirtual 28, 3) := by decide +kernel
theorem dX6_turnsBetween_35 : decode cX6_turnsBetween 35 = .ok (.aload_n 0, 1) := by decide +kernel
theorem dX6_turnsBetween_36 : decode cX6_turnsBetween 36 = .ok (.getfield 18, 3) := by decide +kernel
theorem dX6_turnsBetween_39 : decode cX6_turnsBetween 39 = .ok (.aload_n 0, 1) := by decide +kernel
theorem dX6_turnsBetween_40 : decode cX6_turnsBetween 40 = .ok (.getfield 9, 3) := by decide +kernel
theorem dX6_turnsBetween_43 : decode cX6_turnsBetween 43 = .ok (.aload_n 2, 1) := by decide +kernel
theorem dX6_turnsBetween_44 : decode cX6_turnsBetween 44 = .ok (.invokevirtual 40, 3) := by decide +kernel
theorem dX6_turnsBetween_47 : decode cX6_turnsBetween 47 = .ok (.ifCond .ne 6, 3) := by decide +kernel
theorem dX6_turnsBetween_50 : decode cX6_turnsBetween 50 = .ok (.iinc 3 1, 3) := by decide +kernel
theorem dX6_turnsBetween_53 : decode cX6_turnsBetween 53 = .ok (.iinc 4 1, 3) := by decide +kernel
theorem dX6_turnsBetween_56 : decode cX6_turnsBetween 56 = .ok (.goto (-51), 3) := by decide +kernel
theorem dX6_turnsBetween_59 : decode cX6_turnsBetween 59 = .ok (.iload_n 3, 1) := by decide +kernel
theorem dX6_turnsBetween_60 : decode cX6_turnsBetween 60 = .ok (.ireturn, 1) := by decide +kernel
set_option maxRecDepth 20000 in
theorem ggX6_toFirst_X2_overwrite : GoodIn wsX6_toFirst wsX2_overwrite := goodIn_r _ [8, 9, 10, 11, 7, 12, 13, 14, 54, 55, 56, 57, 58] (by decide +kernel) (by decide +kernel)
set_option maxRecDepth 20000 in
theorem gX6_toFirst_X2_overwrite : GoodIn wsX6_toFirst (wsV RX6 32 RX2 yX2_overwrite wsX2_overwrite) := goodIn_app (goodIn_of _ (by decide +kernel)) ggX6_toFirst_X2_overwrite
set_option maxRecDepth 20000 in
theorem ggX6_toFirst_X6_keepsGround : GoodIn wsX6_toFirst wsX6_keepsGround := goodIn_r _ [19, 1, 20, 21, 22, 7, 23, 13, 14, 51, 52, 53, 54, 55, 56, 57, 58] (by decide +kernel) (by decide +kernel)
set_option maxRecDepth 20000 in
theorem gX6_toFirst_X6_keepsGround : GoodIn wsX6_toFirst (wsV RX6 36 RX6 yX6_keepsGround wsX6_keepsGround) := goodIn_app (goodIn_of _ (by decide +kernel)) ggX6_toFirst_X6_keepsGround
set_option maxRecDepth 20000 in
theorem ggX6_toFirst_X6_turnTo : GoodIn wsX6_toFirst wsX6_turnTo := goodIn_r _ [27, 1, 28, 10, 11, 7, 12, 13, 14, 29, 30, 31, 18, 32, 20, 21, 22, 23, 33, 34, 35, 36, 37, 38, 39, 40, 41, 42, 43, 44, 45, 46, 51, 52, 53, 54, 55, 56, 57, 58] (by decide +kernel) (by decide +kernel)
set_option maxRecDepth 20000 in
theorem gX6_toFirst_X6_turnTo : GoodIn wsX6_toFirst (wsV RX6 28 RX6 yX6_turnTo wsX6_turnTo) := goodIn_app (goodIn_of _ (by decide +kernel)) ggX6_toFirst_X6_turnTo
set_option maxRecDepth 20000 in
theorem ggX6_toFirst_X2_compare : GoodIn wsX6_toFirst wsX2_compare := goodIn_r _ [50, 9, 10, 11, 7, 12, 13, 14, 54, 55, 56, 57, 58] (by decide +kernel) (by decide +kernel)
set_option maxRecDepth 20000 in
theorem gX6_toFirst_X2_compare : GoodIn wsX6_toFirst (wsV RX6 40 RX2 yX2_compare wsX2_compare) := goodIn_app (goodIn_of _ (by decide +kernel)) ggX6_toFirst_X2_compare
theorem dX6_toFirst_0 : decode cX6_toFirst 0 = .ok (.iconst 0, 1) := by decide +kernel
theorem dX6_toFirst_1 : decode cX6_toFirst 1 = .ok (.istore_n 2, 1) := by decide +kernel
theorem dX6_toFirst_2 : decode cX6_toFirst 2 = .ok (.aload_n 0, 1) := by decide +kernel
theorem dX6_toFirst_3 : decode cX6_toFirst 3 = .ok (.getfield 18, 3) := by decide +kernel
theorem dX6_toFirst_6 : decode cX6_toFirst 6 = .ok (.aload_n 1, 1) := by decide +kernel
theorem dX6_toFirst_7 : decode cX6_toFirst 7 = .ok (.aload_n 0, 1) := by decide +kernel
theorem dX6_toFirst_8 : decode cX6_toFirst 8 = .ok (.getfield 15, 3) := by decide +kernel
theorem dX6_toFirst_11 : decode cX6_toFirst 11 = .ok (.invokevirtual 32, 3) := by decide +kernel
theorem dX6_toFirst_14 : decode cX6_toFirst 14 = .ok (.pop, 1) := by decide +kernel
theorem dX6_toFirst_15 : decode cX6_toFirst 15 = .ok (.iconst 1, 1) := by decide +kernel
theorem dX6_toFirst_16 : decode cX6_toFirst 16 = .ok (.istore_n 3, 1) := by decide +kernel
theorem dX6_toFirst_17 : decode cX6_toFirst 17 = .ok (.iload_n 3, 1) := by decide +kernel
theorem dX6_toFirst_18 : decode cX6_toFirst 18 = .ok (.bipush 8, 2) := by decide +kernel
theorem dX6_toFirst_20 : decode cX6_toFirst 20 = .ok (.if_icmp .ge 66, 3) := by decide +kernel
theorem dX6_toFirst_23 : decode cX6_toFirst 23 = .ok (.aload_n 0, 1) := by decide +kernel
theorem dX6_toFirst_24 : decode cX6_toFirst 24 = .ok (.iload_n 3, 1) := by decide +kernel
theorem dX6_toFirst_25 : decode cX6_toFirst 25 = .ok (.invokevirtual 36, 3) := by decide +kernel
theorem dX6_toFirst_28 : decode cX6_toFirst 28 = .ok (.ifCond .ne 6, 3) := by decide +kernel
theorem dX6_toFirst_31 : decode cX6_toFirst 31 = .ok (.goto 49, 3) := by decide +kernel
theorem dX6_toFirst_34 : decode cX6_toFirst 34 = .ok (.aload_n 0, 1) := by decide +kernel
theorem dX6_toFirst_35 : decode cX6_toFirst 35 = .ok (.aload_n 1, 1) := by decide +kernel
theorem dX6_toFirst_36 : decode cX6_toFirst 36 = .ok (.iload_n 3, 1) := by decide +kernel
theorem dX6_toFirst_37 : decode cX6_toFirst 37 = .ok (.aload_n 0, 1) := by decide +kernel
theorem dX6_toFirst_38 : decode cX6_toFirst 38 = .ok (.getfield 9, 3) := by decide +kernel
theorem dX6_toFirst_41 : decode cX6_toFirst 41 = .ok (.invokevirtual 28, 3) := by decide +kernel
theorem dX6_toFirst_44 : decode cX6_toFirst 44 = .ok (.aload_n 0, 1) := by decide +kernel
theorem dX6_toFirst_45 : decode cX6_toFirst 45 = .ok (.getfield 18, 3) := by decide +kernel
theorem dX6_toFirst_48 : decode cX6_toFirst 48 = .ok (.aload_n 0, 1) := by decide +kernel
theorem dX6_toFirst_49 : decode cX6_toFirst 49 = .ok (.getfield 9, 3) := by decide +kernel
theorem dX6_toFirst_52 : decode cX6_toFirst 52 = .ok (.aload_n 0, 1) := by decide +kernel
theorem dX6_toFirst_53 : decode cX6_toFirst 53 = .ok (.getfield 15, 3) := by decide +kernel
theorem dX6_toFirst_56 : decode cX6_toFirst 56 = .ok (.invokevirtual 40, 3) := by decide +kernel
theorem dX6_toFirst_59 : decode cX6_toFirst 59 = .ok (.ifCond .ge 21, 3) := by decide +kernel
theorem dX6_toFirst_62 : decode cX6_toFirst 62 = .ok (.iload_n 3, 1) := by decide +kernel
theorem dX6_toFirst_63 : decode cX6_toFirst 63 = .ok (.istore_n 2, 1) := by decide +kernel
theorem dX6_toFirst_64 : decode cX6_toFirst 64 = .ok (.aload_n 0, 1) := by decide +kernel
theorem dX6_toFirst_65 : decode cX6_toFirst 65 = .ok (.getfield 18, 3) := by decide +kernel
theorem dX6_toFirst_68 : decode cX6_toFirst 68 = .ok (.aload_n 0, 1) := by decide +kernel
theorem dX6_toFirst_69 : decode cX6_toFirst 69 = .ok (.getfield 9, 3) := by decide +kernel
theorem dX6_toFirst_72 : decode cX6_toFirst 72 = .ok (.aload_n 0, 1) := by decide +kernel
theorem dX6_toFirst_73 : decode cX6_toFirst 73 = .ok (.getfield 15, 3) := by decide +kernel
theorem dX6_toFirst_76 : decode cX6_toFirst 76 = .ok (.invokevirtual 32, 3) := by decide +kernel
theorem dX6_toFirst_79 : decode cX6_toFirst 79 = .ok (.pop, 1) := by decide +kernel
theorem dX6_toFirst_80 : decode cX6_toFirst 80 = .ok (.iinc 3 1, 3) := by decide +kernel
theorem dX6_toFirst_83 : decode cX6_toFirst 83 = .ok (.goto (-66), 3) := by decide +kernel
theorem dX6_toFirst_86 : decode cX6_toFirst 86 = .ok (.iload_n 2, 1) := by decide +kernel
theorem dX6_toFirst_87 : decode cX6_toFirst 87 = .ok (.ireturn, 1) := by decide +kernel
set_option maxRecDepth 20000 in
theorem ggX6_turnTo_X2_cells : GoodIn wsX6_turnTo wsX2_cells := goodIn_r _ [6, 7, 8, 35, 36, 37, 38, 39] (by decide +kernel) (by decide +kernel)
set_option maxRecDepth 20000 in
theorem gX6_turnTo_X2_cells : GoodIn wsX6_turnTo (wsV RX6 43 RX2 yX2_cells wsX2_cells) := goodIn_app (goodIn_of _ (by decide +kernel)) ggX6_turnTo_X2_cells
set_option maxRecDepth 20000 in
theorem ggX6_turnTo_X6_image : GoodIn wsX6_turnTo wsX6_image := goodIn_r _ [13, 1, 14, 15, 16, 5, 17, 7, 8, 18, 19, 20, 21, 22, 23, 24, 25, 26, 27, 28, 29, 30, 31, 32, 33, 34, 35, 36, 37, 38, 39] (by decide +kernel) (by decide +kernel)
set_option maxRecDepth 20000 in
theorem gX6_turnTo_X6_image : GoodIn wsX6_turnTo (wsV RX6 47 RX6 yX6_image wsX6_image) := goodIn_app (goodIn_of _ (by decide +kernel)) ggX6_turnTo_X6_image
theorem dX6_turnTo_0 : decode cX6_turnTo 0 = .ok (.iconst 0, 1) := by decide +kernel
theorem dX6_turnTo_1 : decode cX6_turnTo 1 = .ok (.istore 4, 2) := by decide +kernel
theorem dX6_turnTo_3 : decode cX6_turnTo 3 = .ok (.iload 4, 2) := by decide +kernel
theorem dX6_turnTo_5 : decode cX6_turnTo 5 = .ok (.aload_n 0, 1) := by decide +kernel
theorem dX6_turnTo_6 : decode cX6_turnTo 6 = .ok (.getfield 18, 3) := by decide +kernel
theorem dX6_turnTo_9 : decode cX6_turnTo 9 = .ok (.invokevirtual 43, 3) := by decide +kernel
theorem dX6_turnTo_12 : decode cX6_turnTo 12 = .ok (.if_icmp .ge 22, 3) := by decide +kernel
theorem dX6_turnTo_15 : decode cX6_turnTo 15 = .ok (.aload_n 3, 1) := by decide +kernel
theorem dX6_turnTo_16 : decode cX6_turnTo 16 = .ok (.aload_n 0, 1) := by decide +kernel
theorem dX6_turnTo_17 : decode cX6_turnTo 17 = .ok (.iload 4, 2) := by decide +kernel
theorem dX6_turnTo_19 : decode cX6_turnTo 19 = .ok (.iload_n 2, 1) := by decide +kernel
theorem dX6_turnTo_20 : decode cX6_turnTo 20 = .ok (.invokevirtual 47, 3) := by decide +kernel
theorem dX6_turnTo_23 : decode cX6_turnTo 23 = .ok (.aload_n 1, 1) := by decide +kernel
theorem dX6_turnTo_24 : decode cX6_turnTo 24 = .ok (.iload 4, 2) := by decide +kernel
theorem dX6_turnTo_26 : decode cX6_turnTo 26 = .ok (.iaload, 1) := by decide +kernel
theorem dX6_turnTo_27 : decode cX6_turnTo 27 = .ok (.iastore, 1) := by decide +kernel
theorem dX6_turnTo_28 : decode cX6_turnTo 28 = .ok (.iinc 4 1, 3) := by decide +kernel
theorem dX6_turnTo_31 : decode cX6_turnTo 31 = .ok (.goto (-28), 3) := by decide +kernel
theorem dX6_turnTo_34 : decode cX6_turnTo 34 = .ok (.return_, 1) := by decide +kernel
set_option maxRecDepth 20000 in
theorem ggX6_image_X2_lines : GoodIn wsX6_image wsX2_lines := goodIn_r _ [6, 7, 8, 26, 27, 28, 29, 30] (by decide +kernel) (by decide +kernel)
set_option maxRecDepth 20000 in
theorem gX6_image_X2_lines : GoodIn wsX6_image (wsV RX6 22 RX2 yX2_lines wsX2_lines) := goodIn_app (goodIn_of _ (by decide +kernel)) ggX6_image_X2_lines
set_option maxRecDepth 20000 in
theorem ggX6_image_X2_x : GoodIn wsX6_image wsX2_x := goodIn_r _ [12, 13, 26, 27, 28, 29, 30] (by decide +kernel) (by decide +kernel)
set_option maxRecDepth 20000 in
theorem gX6_image_X2_x : GoodIn wsX6_image (wsV RX6 51 RX2 yX2_x wsX2_x) := goodIn_app (goodIn_of _ (by decide +kernel)) ggX6_image_X2_x
set_option maxRecDepth 20000 in
theorem ggX6_image_X2_y : GoodIn wsX6_image wsX2_y := goodIn_r _ [17, 18, 26, 27, 28, 29, 30] (by decide +kernel) (by decide +kernel)
set_option maxRecDepth 20000 in
theorem gX6_image_X2_y : GoodIn wsX6_image (wsV RX6 55 RX2 yX2_y wsX2_y) := goodIn_app (goodIn_of _ (by decide +kernel)) ggX6_image_X2_y
set_option maxRecDepth 20000 in
theorem ggX6_image_X2_at : GoodIn wsX6_image wsX2_at := goodIn_r _ [22, 7, 26, 27, 28, 29, 30] (by decide +kernel) (by decide +kernel)
set_option maxRecDepth 20000 in
theorem gX6_image_X2_at : GoodIn wsX6_image (wsV RX6 58 RX2 yX2_at wsX2_at) := goodIn_app (goodIn_of _ (by decide +kernel)) ggX6_image_X2_at
theorem dX6_image_0 : decode cX6_image 0 = .ok (.aload_n 0, 1) := by decide +kernel
theorem dX6_image_1 : decode cX6_image 1 = .ok (.getfield 18, 3) := by decide +kernel
theorem dX6_image_4 : decode cX6_image 4 = .ok (.iconst 1, 1) := by decide +kernel
theorem dX6_image_5 : decode cX6_image 5 = .ok (.invokevirtual 22, 3) := by decide +kernel
theorem dX6_image_8 : decode cX6_image 8 = .ok (.iconst 1, 1) := by decide +kernel
theorem dX6_image_9 : decode cX6_image 9 = .ok (.isub, 1) := by decide +kernel
theorem dX6_image_10 : decode cX6_image 10 = .ok (.istore_n 3, 1) := by decide +kernel
theorem dX6_image_11 : decode cX6_image 11 = .ok (.aload_n 0, 1) := by decide +kernel
theorem dX6_image_12 : decode cX6_image 12 = .ok (.getfield 18, 3) := by decide +kernel
theorem dX6_image_15 : decode cX6_image 15 = .ok (.iconst 0, 1) := by decide +kernel
theorem dX6_image_16 : decode cX6_image 16 = .ok (.invokevirtual 22, 3) := by decide +kernel
theorem dX6_image_19 : decode cX6_image 19 = .ok (.iconst 1, 1) := by decide +kernel
theorem dX6_image_20 : decode cX6_image 20 = .ok (.isub, 1) := by decide +kernel
theorem dX6_image_21 : decode cX6_image 21 = .ok (.istore 4, 2) := by decide +kernel
theorem dX6_image_23 : decode cX6_image 23 = .ok (.iload_n 2, 1) := by decide +kernel
theorem dX6_image_24 : decode cX6_image 24 = .ok (.iconst 4, 1) := by decide +kernel
theorem dX6_image_25 : decode cX6_image 25 = .ok (.if_icmp .ge 14, 3) := by decide +kernel
theorem dX6_image_28 : decode cX6_image 28 = .ok (.aload_n 0, 1) := by decide +kernel
theorem dX6_image_29 : decode cX6_image 29 = .ok (.getfield 18, 3) := by decide +kernel
theorem dX6_image_32 : decode cX6_image 32 = .ok (.iload_n 1, 1) := by decide +kernel
theorem dX6_image_33 : decode cX6_image 33 = .ok (.invokevirtual 51, 3) := by decide +kernel
theorem dX6_image_36 : decode cX6_image 36 = .ok (.goto 13, 3) := by decide +kernel
theorem dX6_image_39 : decode cX6_image 39 = .ok (.iload_n 3, 1) := by decide +kernel
theorem dX6_image_40 : decode cX6_image 40 = .ok (.aload_n 0, 1) := by decide +kernel
theorem dX6_image_41 : decode cX6_image 41 = .ok (.getfield 18, 3) := by decide +kernel
theorem dX6_image_44 : decode cX6_image 44 = .ok (.iload_n 1, 1) := by decide +kernel
theorem dX6_image_45 : decode cX6_image 45 = .ok (.invokevirtual 51, 3) := by decide +kernel
theorem dX6_image_48 : decode cX6_image 48 = .ok (.isub, 1) := by decide +kernel
theorem dX6_image_49 : decode cX6_image 49 = .ok (.istore 5, 2) := by decide +kernel
theorem dX6_image_51 : decode cX6_image 51 = .ok (.aload_n 0, 1) := by decide +kernel
theorem dX6_image_52 : decode cX6_image 52 = .ok (.getfield 18, 3) := by decide +kernel
theorem dX6_image_55 : decode cX6_image 55 = .ok (.iload_n 1, 1) := by decide +kernel
theorem dX6_image_56 : decode cX6_image 56 = .ok (.invokevirtual 55, 3) := by decide +kernel
theorem dX6_image_59 : decode cX6_image 59 = .ok (.istore 6, 2) := by decide +kernel
theorem dX6_image_61 : decode cX6_image 61 = .ok (.iload_n 2, 1) := by decide +kernel
theorem dX6_image_62 : decode cX6_image 62 = .ok (.iconst 4, 1) := by decide +kernel
theorem dX6_image_63 : decode cX6_image 63 = .ok (.irem, 1) := by decide +kernel
theorem dX6_image_64 : decode cX6_image 64 = .ok (.tableswitch 74 1 3 #[28, 43, 60], 28) := by decide +kernel
theorem dX6_image_92 : decode cX6_image 92 = .ok (.aload_n 0, 1) := by decide +kernel
theorem dX6_image_93 : decode cX6_image 93 = .ok (.getfield 18, 3) := by decide +kernel
theorem dX6_image_96 : decode cX6_image 96 = .ok (.iload 4, 2) := by decide +kernel
theorem dX6_image_98 : decode cX6_image 98 = .ok (.iload 6, 2) := by decide +kernel
theorem dX6_image_100 : decode cX6_image 100 = .ok (.isub, 1) := by decide +kernel
theorem dX6_image_101 : decode cX6_image 101 = .ok (.iload 5, 2) := by decide +kernel
theorem dX6_image_103 : decode cX6_image 103 = .ok (.invokevirtual 58, 3) := by decide +kernel
theorem dX6_image_106 : decode cX6_image 106 = .ok (.ireturn, 1) := by decide +kernel
theorem dX6_image_107 : decode cX6_image 107 = .ok (.aload_n 0, 1) := by decide +kernel
theorem dX6_image_108 : decode cX6_image 108 = .ok (.getfield 18, 3) := by decide +kernel
theorem dX6_image_111 : decode cX6_image 111 = .ok (.iload_n 3, 1) := by decide +kernel
theorem dX6_image_112 : decode cX6_image 112 = .ok (.iload 5, 2) := by decide +kernel
theorem dX6_image_114 : decode cX6_image 114 = .ok (.isub, 1) := by decide +kernel
theorem dX6_image_115 : decode cX6_image 115 = .ok (.iload 4, 2) := by decide +kernel
theorem dX6_image_117 : decode cX6_image 117 = .ok (.iload 6, 2) := by decide +kernel
theorem dX6_image_119 : decode cX6_image 119 = .ok (.isub, 1) := by decide +kernel
theorem dX6_image_120 : decode cX6_image 120 = .ok (.invokevirtual 58, 3) := by decide +kernel
theorem dX6_image_123 : decode cX6_image 123 = .ok (.ireturn, 1) := by decide +kernel
theorem dX6_image_124 : decode cX6_image 124 = .ok (.aload_n 0, 1) := by decide +kernel
theorem dX6_image_125 : decode cX6_image 125 = .ok (.getfield 18, 3) := by decide +kernel
theorem dX6_image_128 : decode cX6_image 128 = .ok (.iload 6, 2) := by decide +kernel
theorem dX6_image_130 : decode cX6_image 130 = .ok (.iload_n 3, 1) := by decide +kernel
theorem dX6_image_131 : decode cX6_image 131 = .ok (.iload 5, 2) := by decide +kernel
theorem dX6_image_133 : decode cX6_image 133 = .ok (.isub, 1) := by decide +kernel
theorem dX6_image_134 : decode cX6_image 134 = .ok (.invokevirtual 58, 3) := by decide +kernel
theorem dX6_image_137 : decode cX6_image 137 = .ok (.ireturn, 1) := by decide +kernel
theorem dX6_image_138 : decode cX6_image 138 = .ok (.aload_n 0, 1) := by decide +kernel
theorem dX6_image_139 : decode cX6_image 139 = .ok (.getfield 18, 3) := by decide +kernel
theorem dX6_image_142 : decode cX6_image 142 = .ok (.iload 5, 2) := by decide +kernel
theorem dX6_image_144 : decode cX6_image 144 = .ok (.iload 6, 2) := by decide +kernel
theorem dX6_image_146 : decode cX6_image 146 = .ok (.invokevirtual 58, 3) := by decide +kernel
theorem dX6_image_149 : decode cX6_image 149 = .ok (.ireturn, 1) := by decide +kernel
