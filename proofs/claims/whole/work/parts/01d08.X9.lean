set_option maxRecDepth 20000 in
theorem ggX9_init_X9_layGround : GoodIn wsX9_init wsX9_layGround := goodIn_r _ [33, 34, 35, 5, 6, 7, 9, 10, 8, 36, 37, 38, 39, 40, 41, 42, 43, 44, 45, 46, 47, 48, 49, 50, 51, 52, 53, 54, 55, 56, 57, 58, 59, 60, 61] (by decide +kernel) (by decide +kernel)
set_option maxRecDepth 20000 in
theorem gX9_init_X9_layGround : GoodIn wsX9_init (wsV RX9 81 RX9 yX9_layGround wsX9_layGround) := goodIn_app (goodIn_of _ (by decide +kernel)) ggX9_init_X9_layGround
theorem dX9_init_0 : decode cX9_init 0 = .ok (.aload_n 0, 1) := by decide +kernel
theorem dX9_init_1 : decode cX9_init 1 = .ok (.invokespecial 1, 3) := by decide +kernel
theorem dX9_init_4 : decode cX9_init 4 = .ok (.aload_n 0, 1) := by decide +kernel
theorem dX9_init_5 : decode cX9_init 5 = .ok (.bipush 100, 2) := by decide +kernel
theorem dX9_init_7 : decode cX9_init 7 = .ok (.newarray .int, 2) := by decide +kernel
theorem dX9_init_9 : decode cX9_init 9 = .ok (.putfield 7, 3) := by decide +kernel
theorem dX9_init_12 : decode cX9_init 12 = .ok (.aload_n 0, 1) := by decide +kernel
theorem dX9_init_13 : decode cX9_init 13 = .ok (.iconst 5, 1) := by decide +kernel
theorem dX9_init_14 : decode cX9_init 14 = .ok (.newarray .int, 2) := by decide +kernel
theorem dX9_init_16 : decode cX9_init 16 = .ok (.putfield 13, 3) := by decide +kernel
theorem dX9_init_19 : decode cX9_init 19 = .ok (.aload_n 0, 1) := by decide +kernel
theorem dX9_init_20 : decode cX9_init 20 = .ok (.iconst 5, 1) := by decide +kernel
theorem dX9_init_21 : decode cX9_init 21 = .ok (.newarray .int, 2) := by decide +kernel
theorem dX9_init_23 : decode cX9_init 23 = .ok (.putfield 16, 3) := by decide +kernel
theorem dX9_init_26 : decode cX9_init 26 = .ok (.aload_n 0, 1) := by decide +kernel
theorem dX9_init_27 : decode cX9_init 27 = .ok (.bipush 25, 2) := by decide +kernel
theorem dX9_init_29 : decode cX9_init 29 = .ok (.newarray .int, 2) := by decide +kernel
theorem dX9_init_31 : decode cX9_init 31 = .ok (.putfield 19, 3) := by decide +kernel
theorem dX9_init_34 : decode cX9_init 34 = .ok (.aload_n 0, 1) := by decide +kernel
theorem dX9_init_35 : decode cX9_init 35 = .ok (.iconst 5, 1) := by decide +kernel
theorem dX9_init_36 : decode cX9_init 36 = .ok (.newarray .int, 2) := by decide +kernel
theorem dX9_init_38 : decode cX9_init 38 = .ok (.putfield 22, 3) := by decide +kernel
theorem dX9_init_41 : decode cX9_init 41 = .ok (.aload_n 0, 1) := by decide +kernel
theorem dX9_init_42 : decode cX9_init 42 = .ok (.iconst 5, 1) := by decide +kernel
theorem dX9_init_43 : decode cX9_init 43 = .ok (.newarray .int, 2) := by decide +kernel
theorem dX9_init_45 : decode cX9_init 45 = .ok (.putfield 25, 3) := by decide +kernel
theorem dX9_init_48 : decode cX9_init 48 = .ok (.aload_n 0, 1) := by decide +kernel
theorem dX9_init_49 : decode cX9_init 49 = .ok (.bipush 25, 2) := by decide +kernel
theorem dX9_init_51 : decode cX9_init 51 = .ok (.newarray .int, 2) := by decide +kernel
theorem dX9_init_53 : decode cX9_init 53 = .ok (.putfield 28, 3) := by decide +kernel
theorem dX9_init_56 : decode cX9_init 56 = .ok (.aload_n 0, 1) := by decide +kernel
theorem dX9_init_57 : decode cX9_init 57 = .ok (.sipush 1664, 3) := by decide +kernel
theorem dX9_init_60 : decode cX9_init 60 = .ok (.newarray .long, 2) := by decide +kernel
theorem dX9_init_62 : decode cX9_init 62 = .ok (.putfield 31, 3) := by decide +kernel
theorem dX9_init_65 : decode cX9_init 65 = .ok (.aload_n 0, 1) := by decide +kernel
theorem dX9_init_66 : decode cX9_init 66 = .ok (.sipush 1664, 3) := by decide +kernel
theorem dX9_init_69 : decode cX9_init 69 = .ok (.newarray .int, 2) := by decide +kernel
theorem dX9_init_71 : decode cX9_init 71 = .ok (.putfield 35, 3) := by decide +kernel
theorem dX9_init_74 : decode cX9_init 74 = .ok (.aload_n 0, 1) := by decide +kernel
theorem dX9_init_75 : decode cX9_init 75 = .ok (.bipush (-9), 2) := by decide +kernel
theorem dX9_init_77 : decode cX9_init 77 = .ok (.putfield 38, 3) := by decide +kernel
theorem dX9_init_80 : decode cX9_init 80 = .ok (.aload_n 0, 1) := by decide +kernel
theorem dX9_init_81 : decode cX9_init 81 = .ok (.bipush 25, 2) := by decide +kernel
theorem dX9_init_83 : decode cX9_init 83 = .ok (.newarray .int, 2) := by decide +kernel
theorem dX9_init_85 : decode cX9_init 85 = .ok (.putfield 42, 3) := by decide +kernel
theorem dX9_init_88 : decode cX9_init 88 = .ok (.aload_n 0, 1) := by decide +kernel
theorem dX9_init_89 : decode cX9_init 89 = .ok (.bipush 25, 2) := by decide +kernel
theorem dX9_init_91 : decode cX9_init 91 = .ok (.newarray .int, 2) := by decide +kernel
theorem dX9_init_93 : decode cX9_init 93 = .ok (.putfield 45, 3) := by decide +kernel
theorem dX9_init_96 : decode cX9_init 96 = .ok (.aload_n 0, 1) := by decide +kernel
theorem dX9_init_97 : decode cX9_init 97 = .ok (.bipush 25, 2) := by decide +kernel
theorem dX9_init_99 : decode cX9_init 99 = .ok (.newarray .int, 2) := by decide +kernel
theorem dX9_init_101 : decode cX9_init 101 = .ok (.putfield 48, 3) := by decide +kernel
theorem dX9_init_104 : decode cX9_init 104 = .ok (.aload_n 0, 1) := by decide +kernel
theorem dX9_init_105 : decode cX9_init 105 = .ok (.iconst 5, 1) := by decide +kernel
theorem dX9_init_106 : decode cX9_init 106 = .ok (.newarray .int, 2) := by decide +kernel
theorem dX9_init_108 : decode cX9_init 108 = .ok (.putfield 51, 3) := by decide +kernel
theorem dX9_init_111 : decode cX9_init 111 = .ok (.aload_n 0, 1) := by decide +kernel
theorem dX9_init_112 : decode cX9_init 112 = .ok (.iconst 5, 1) := by decide +kernel
theorem dX9_init_113 : decode cX9_init 113 = .ok (.newarray .int, 2) := by decide +kernel
theorem dX9_init_115 : decode cX9_init 115 = .ok (.putfield 54, 3) := by decide +kernel
theorem dX9_init_118 : decode cX9_init 118 = .ok (.aload_n 0, 1) := by decide +kernel
theorem dX9_init_119 : decode cX9_init 119 = .ok (.bipush 10, 2) := by decide +kernel
theorem dX9_init_121 : decode cX9_init 121 = .ok (.newarray .int, 2) := by decide +kernel
theorem dX9_init_123 : decode cX9_init 123 = .ok (.putfield 57, 3) := by decide +kernel
theorem dX9_init_126 : decode cX9_init 126 = .ok (.aload_n 0, 1) := by decide +kernel
theorem dX9_init_127 : decode cX9_init 127 = .ok (.bipush 25, 2) := by decide +kernel
theorem dX9_init_129 : decode cX9_init 129 = .ok (.newarray .int, 2) := by decide +kernel
theorem dX9_init_131 : decode cX9_init 131 = .ok (.putfield 60, 3) := by decide +kernel
theorem dX9_init_134 : decode cX9_init 134 = .ok (.aload_n 0, 1) := by decide +kernel
theorem dX9_init_135 : decode cX9_init 135 = .ok (.bipush 25, 2) := by decide +kernel
theorem dX9_init_137 : decode cX9_init 137 = .ok (.newarray .int, 2) := by decide +kernel
theorem dX9_init_139 : decode cX9_init 139 = .ok (.putfield 63, 3) := by decide +kernel
theorem dX9_init_142 : decode cX9_init 142 = .ok (.aload_n 0, 1) := by decide +kernel
theorem dX9_init_143 : decode cX9_init 143 = .ok (.sipush 625, 3) := by decide +kernel
theorem dX9_init_146 : decode cX9_init 146 = .ok (.newarray .int, 2) := by decide +kernel
theorem dX9_init_148 : decode cX9_init 148 = .ok (.putfield 66, 3) := by decide +kernel
theorem dX9_init_151 : decode cX9_init 151 = .ok (.aload_n 0, 1) := by decide +kernel
theorem dX9_init_152 : decode cX9_init 152 = .ok (.bipush 52, 2) := by decide +kernel
theorem dX9_init_154 : decode cX9_init 154 = .ok (.newarray .int, 2) := by decide +kernel
theorem dX9_init_156 : decode cX9_init 156 = .ok (.putfield 69, 3) := by decide +kernel
theorem dX9_init_159 : decode cX9_init 159 = .ok (.aload_n 0, 1) := by decide +kernel
theorem dX9_init_160 : decode cX9_init 160 = .ok (.bipush 52, 2) := by decide +kernel
theorem dX9_init_162 : decode cX9_init 162 = .ok (.newarray .int, 2) := by decide +kernel
theorem dX9_init_164 : decode cX9_init 164 = .ok (.putfield 72, 3) := by decide +kernel
theorem dX9_init_167 : decode cX9_init 167 = .ok (.aload_n 0, 1) := by decide +kernel
theorem dX9_init_168 : decode cX9_init 168 = .ok (.bipush 25, 2) := by decide +kernel
theorem dX9_init_170 : decode cX9_init 170 = .ok (.newarray .int, 2) := by decide +kernel
theorem dX9_init_172 : decode cX9_init 172 = .ok (.putfield 75, 3) := by decide +kernel
theorem dX9_init_175 : decode cX9_init 175 = .ok (.aload_n 0, 1) := by decide +kernel
theorem dX9_init_176 : decode cX9_init 176 = .ok (.bipush 25, 2) := by decide +kernel
theorem dX9_init_178 : decode cX9_init 178 = .ok (.newarray .int, 2) := by decide +kernel
theorem dX9_init_180 : decode cX9_init 180 = .ok (.putfield 78, 3) := by decide +kernel
theorem dX9_init_183 : decode cX9_init 183 = .ok (.aload_n 0, 1) := by decide +kernel
theorem dX9_init_184 : decode cX9_init 184 = .ok (.iconst 4, 1) := by decide +kernel
theorem dX9_init_185 : decode cX9_init 185 = .ok (.iconst 4, 1) := by decide +kernel
theorem dX9_init_186 : decode cX9_init 186 = .ok (.invokevirtual 81, 3) := by decide +kernel
theorem dX9_init_189 : decode cX9_init 189 = .ok (.return_, 1) := by decide +kernel
theorem dX9_in_0 : decode cX9_in 0 = .ok (.lload_n 0, 1) := by decide +kernel
theorem dX9_in_1 : decode cX9_in 1 = .ok (.lload_n 2, 1) := by decide +kernel
theorem dX9_in_2 : decode cX9_in 2 = .ok (.lcmp, 1) := by decide +kernel
theorem dX9_in_3 : decode cX9_in 3 = .ok (.ifCond .lt 14, 3) := by decide +kernel
theorem dX9_in_6 : decode cX9_in 6 = .ok (.lload_n 0, 1) := by decide +kernel
theorem dX9_in_7 : decode cX9_in 7 = .ok (.lload 4, 2) := by decide +kernel
theorem dX9_in_9 : decode cX9_in 9 = .ok (.lcmp, 1) := by decide +kernel
theorem dX9_in_10 : decode cX9_in 10 = .ok (.ifCond .gt 7, 3) := by decide +kernel
theorem dX9_in_13 : decode cX9_in 13 = .ok (.iconst 1, 1) := by decide +kernel
theorem dX9_in_14 : decode cX9_in 14 = .ok (.goto 4, 3) := by decide +kernel
theorem dX9_in_17 : decode cX9_in 17 = .ok (.iconst 0, 1) := by decide +kernel
theorem dX9_in_18 : decode cX9_in 18 = .ok (.ireturn, 1) := by decide +kernel
theorem dX9_layGround_0 : decode cX9_layGround 0 = .ok (.aload_n 0, 1) := by decide +kernel
theorem dX9_layGround_1 : decode cX9_layGround 1 = .ok (.iload_n 1, 1) := by decide +kernel
theorem dX9_layGround_2 : decode cX9_layGround 2 = .ok (.putfield 85, 3) := by decide +kernel
theorem dX9_layGround_5 : decode cX9_layGround 5 = .ok (.aload_n 0, 1) := by decide +kernel
theorem dX9_layGround_6 : decode cX9_layGround 6 = .ok (.iload_n 2, 1) := by decide +kernel
theorem dX9_layGround_7 : decode cX9_layGround 7 = .ok (.putfield 88, 3) := by decide +kernel
theorem dX9_layGround_10 : decode cX9_layGround 10 = .ok (.iconst 0, 1) := by decide +kernel
theorem dX9_layGround_11 : decode cX9_layGround 11 = .ok (.istore_n 3, 1) := by decide +kernel
theorem dX9_layGround_12 : decode cX9_layGround 12 = .ok (.iload_n 3, 1) := by decide +kernel
theorem dX9_layGround_13 : decode cX9_layGround 13 = .ok (.bipush 100, 2) := by decide +kernel
theorem dX9_layGround_15 : decode cX9_layGround 15 = .ok (.if_icmp .ge 16, 3) := by decide +kernel
theorem dX9_layGround_18 : decode cX9_layGround 18 = .ok (.aload_n 0, 1) := by decide +kernel
theorem dX9_layGround_19 : decode cX9_layGround 19 = .ok (.getfield 7, 3) := by decide +kernel
theorem dX9_layGround_22 : decode cX9_layGround 22 = .ok (.iload_n 3, 1) := by decide +kernel
theorem dX9_layGround_23 : decode cX9_layGround 23 = .ok (.iconst 0, 1) := by decide +kernel
theorem dX9_layGround_24 : decode cX9_layGround 24 = .ok (.iastore, 1) := by decide +kernel
theorem dX9_layGround_25 : decode cX9_layGround 25 = .ok (.iinc 3 1, 3) := by decide +kernel
theorem dX9_layGround_28 : decode cX9_layGround 28 = .ok (.goto (-16), 3) := by decide +kernel
theorem dX9_layGround_31 : decode cX9_layGround 31 = .ok (.iconst 0, 1) := by decide +kernel
theorem dX9_layGround_32 : decode cX9_layGround 32 = .ok (.istore_n 3, 1) := by decide +kernel
theorem dX9_layGround_33 : decode cX9_layGround 33 = .ok (.iload_n 3, 1) := by decide +kernel
theorem dX9_layGround_34 : decode cX9_layGround 34 = .ok (.iconst 5, 1) := by decide +kernel
theorem dX9_layGround_35 : decode cX9_layGround 35 = .ok (.if_icmp .ge 39, 3) := by decide +kernel
theorem dX9_layGround_38 : decode cX9_layGround 38 = .ok (.aload_n 0, 1) := by decide +kernel
theorem dX9_layGround_39 : decode cX9_layGround 39 = .ok (.getfield 13, 3) := by decide +kernel
theorem dX9_layGround_42 : decode cX9_layGround 42 = .ok (.iload_n 3, 1) := by decide +kernel
theorem dX9_layGround_43 : decode cX9_layGround 43 = .ok (.bipush (-9), 2) := by decide +kernel
theorem dX9_layGround_45 : decode cX9_layGround 45 = .ok (.iastore, 1) := by decide +kernel
theorem dX9_layGround_46 : decode cX9_layGround 46 = .ok (.aload_n 0, 1) := by decide +kernel
theorem dX9_layGround_47 : decode cX9_layGround 47 = .ok (.getfield 16, 3) := by decide +kernel
theorem dX9_layGround_50 : decode cX9_layGround 50 = .ok (.iload_n 3, 1) := by decide +kernel
theorem dX9_layGround_51 : decode cX9_layGround 51 = .ok (.bipush (-9), 2) := by decide +kernel
theorem dX9_layGround_53 : decode cX9_layGround 53 = .ok (.iastore, 1) := by decide +kernel
theorem dX9_layGround_54 : decode cX9_layGround 54 = .ok (.aload_n 0, 1) := by decide +kernel
theorem dX9_layGround_55 : decode cX9_layGround 55 = .ok (.getfield 22, 3) := by decide +kernel
theorem dX9_layGround_58 : decode cX9_layGround 58 = .ok (.iload_n 3, 1) := by decide +kernel
theorem dX9_layGround_59 : decode cX9_layGround 59 = .ok (.iconst 0, 1) := by decide +kernel
theorem dX9_layGround_60 : decode cX9_layGround 60 = .ok (.iastore, 1) := by decide +kernel
theorem dX9_layGround_61 : decode cX9_layGround 61 = .ok (.aload_n 0, 1) := by decide +kernel
theorem dX9_layGround_62 : decode cX9_layGround 62 = .ok (.getfield 25, 3) := by decide +kernel
theorem dX9_layGround_65 : decode cX9_layGround 65 = .ok (.iload_n 3, 1) := by decide +kernel
theorem dX9_layGround_66 : decode cX9_layGround 66 = .ok (.iconst 0, 1) := by decide +kernel
theorem dX9_layGround_67 : decode cX9_layGround 67 = .ok (.iastore, 1) := by decide +kernel
theorem dX9_layGround_68 : decode cX9_layGround 68 = .ok (.iinc 3 1, 3) := by decide +kernel
theorem dX9_layGround_71 : decode cX9_layGround 71 = .ok (.goto (-38), 3) := by decide +kernel
theorem dX9_layGround_74 : decode cX9_layGround 74 = .ok (.iconst 0, 1) := by decide +kernel
theorem dX9_layGround_75 : decode cX9_layGround 75 = .ok (.istore_n 3, 1) := by decide +kernel
theorem dX9_layGround_76 : decode cX9_layGround 76 = .ok (.iload_n 3, 1) := by decide +kernel
theorem dX9_layGround_77 : decode cX9_layGround 77 = .ok (.bipush 25, 2) := by decide +kernel
theorem dX9_layGround_79 : decode cX9_layGround 79 = .ok (.if_icmp .ge 17, 3) := by decide +kernel
theorem dX9_layGround_82 : decode cX9_layGround 82 = .ok (.aload_n 0, 1) := by decide +kernel
theorem dX9_layGround_83 : decode cX9_layGround 83 = .ok (.getfield 19, 3) := by decide +kernel
theorem dX9_layGround_86 : decode cX9_layGround 86 = .ok (.iload_n 3, 1) := by decide +kernel
theorem dX9_layGround_87 : decode cX9_layGround 87 = .ok (.bipush (-9), 2) := by decide +kernel
theorem dX9_layGround_89 : decode cX9_layGround 89 = .ok (.iastore, 1) := by decide +kernel
theorem dX9_layGround_90 : decode cX9_layGround 90 = .ok (.iinc 3 1, 3) := by decide +kernel
theorem dX9_layGround_93 : decode cX9_layGround 93 = .ok (.goto (-17), 3) := by decide +kernel
theorem dX9_layGround_96 : decode cX9_layGround 96 = .ok (.return_, 1) := by decide +kernel
set_option maxRecDepth 20000 in
theorem ggX9_isSlot_X9_in : GoodIn wsX9_isSlot wsX9_in := goodIn_r _ [5] (by decide +kernel) (by decide +kernel)
set_option maxRecDepth 20000 in
theorem gX9_isSlot_X9_in : GoodIn wsX9_isSlot (va_wsS RX9 93 yX9_in wsX9_in) := goodIn_app (goodIn_of _ (by decide +kernel)) ggX9_isSlot_X9_in
theorem dX9_isSlot_0 : decode cX9_isSlot 0 = .ok (.iload_n 0, 1) := by decide +kernel
theorem dX9_isSlot_1 : decode cX9_isSlot 1 = .ok (.i2l, 1) := by decide +kernel
theorem dX9_isSlot_2 : decode cX9_isSlot 2 = .ok (.lconst 0, 1) := by decide +kernel
theorem dX9_isSlot_3 : decode cX9_isSlot 3 = .ok (.ldc2_w 91, 3) := by decide +kernel
theorem dX9_isSlot_6 : decode cX9_isSlot 6 = .ok (.invokestatic 93, 3) := by decide +kernel
theorem dX9_isSlot_9 : decode cX9_isSlot 9 = .ok (.ireturn, 1) := by decide +kernel
theorem dX9_cells_0 : decode cX9_cells 0 = .ok (.aload_n 0, 1) := by decide +kernel
theorem dX9_cells_1 : decode cX9_cells 1 = .ok (.getfield 85, 3) := by decide +kernel
theorem dX9_cells_4 : decode cX9_cells 4 = .ok (.aload_n 0, 1) := by decide +kernel
theorem dX9_cells_5 : decode cX9_cells 5 = .ok (.getfield 88, 3) := by decide +kernel
theorem dX9_cells_8 : decode cX9_cells 8 = .ok (.imul, 1) := by decide +kernel
theorem dX9_cells_9 : decode cX9_cells 9 = .ok (.ireturn, 1) := by decide +kernel
set_option maxRecDepth 20000 in
theorem ggX9_isCell_X9_cells : GoodIn wsX9_isCell wsX9_cells := goodIn_r _ [5, 6, 7, 11, 12, 13, 14, 15, 16, 17, 18, 19, 20, 21, 22, 23, 24, 25, 26, 27, 28, 29, 30, 31, 32, 33, 34, 35, 36] (by decide +kernel) (by decide +kernel)
set_option maxRecDepth 20000 in
theorem gX9_isCell_X9_cells : GoodIn wsX9_isCell (wsV RX9 97 RX9 yX9_cells wsX9_cells) := goodIn_app (goodIn_of _ (by decide +kernel)) ggX9_isCell_X9_cells
set_option maxRecDepth 20000 in
theorem ggX9_isCell_X9_in : GoodIn wsX9_isCell wsX9_in := goodIn_r _ [10] (by decide +kernel) (by decide +kernel)
set_option maxRecDepth 20000 in
theorem gX9_isCell_X9_in : GoodIn wsX9_isCell (va_wsS RX9 93 yX9_in wsX9_in) := goodIn_app (goodIn_of _ (by decide +kernel)) ggX9_isCell_X9_in
theorem dX9_isCell_0 : decode cX9_isCell 0 = .ok (.iload_n 1, 1) := by decide +kernel
theorem dX9_isCell_1 : decode cX9_isCell 1 = .ok (.i2l, 1) := by decide +kernel
theorem dX9_isCell_2 : decode cX9_isCell 2 = .ok (.lconst 0, 1) := by decide +kernel
theorem dX9_isCell_3 : decode cX9_isCell 3 = .ok (.aload_n 0, 1) := by decide +kernel
theorem dX9_isCell_4 : decode cX9_isCell 4 = .ok (.invokevirtual 97, 3) := by decide +kernel
theorem dX9_isCell_7 : decode cX9_isCell 7 = .ok (.iconst 1, 1) := by decide +kernel
theorem dX9_isCell_8 : decode cX9_isCell 8 = .ok (.isub, 1) := by decide +kernel
theorem dX9_isCell_9 : decode cX9_isCell 9 = .ok (.i2l, 1) := by decide +kernel
theorem dX9_isCell_10 : decode cX9_isCell 10 = .ok (.invokestatic 93, 3) := by decide +kernel
theorem dX9_isCell_13 : decode cX9_isCell 13 = .ok (.ireturn, 1) := by decide +kernel
set_option maxRecDepth 20000 in
theorem ggX9_isLine_X9_in : GoodIn wsX9_isLine wsX9_in := goodIn_r _ [6] (by decide +kernel) (by decide +kernel)
set_option maxRecDepth 20000 in
theorem gX9_isLine_X9_in : GoodIn wsX9_isLine (va_wsS RX9 93 yX9_in wsX9_in) := goodIn_app (goodIn_of _ (by decide +kernel)) ggX9_isLine_X9_in
theorem dX9_isLine_0 : decode cX9_isLine 0 = .ok (.iload_n 2, 1) := by decide +kernel
theorem dX9_isLine_1 : decode cX9_isLine 1 = .ok (.i2l, 1) := by decide +kernel
theorem dX9_isLine_2 : decode cX9_isLine 2 = .ok (.lconst 0, 1) := by decide +kernel
theorem dX9_isLine_3 : decode cX9_isLine 3 = .ok (.iload_n 1, 1) := by decide +kernel
theorem dX9_isLine_4 : decode cX9_isLine 4 = .ok (.ifCond .eq 13, 3) := by decide +kernel
theorem dX9_isLine_7 : decode cX9_isLine 7 = .ok (.aload_n 0, 1) := by decide +kernel
theorem dX9_isLine_8 : decode cX9_isLine 8 = .ok (.getfield 85, 3) := by decide +kernel
theorem dX9_isLine_11 : decode cX9_isLine 11 = .ok (.iconst 1, 1) := by decide +kernel
theorem dX9_isLine_12 : decode cX9_isLine 12 = .ok (.isub, 1) := by decide +kernel
theorem dX9_isLine_13 : decode cX9_isLine 13 = .ok (.i2l, 1) := by decide +kernel
theorem dX9_isLine_14 : decode cX9_isLine 14 = .ok (.goto 10, 3) := by decide +kernel
theorem dX9_isLine_17 : decode cX9_isLine 17 = .ok (.aload_n 0, 1) := by decide +kernel
theorem dX9_isLine_18 : decode cX9_isLine 18 = .ok (.getfield 88, 3) := by decide +kernel
theorem dX9_isLine_21 : decode cX9_isLine 21 = .ok (.iconst 1, 1) := by decide +kernel
theorem dX9_isLine_22 : decode cX9_isLine 22 = .ok (.isub, 1) := by decide +kernel
theorem dX9_isLine_23 : decode cX9_isLine 23 = .ok (.i2l, 1) := by decide +kernel
theorem dX9_isLine_24 : decode cX9_isLine 24 = .ok (.invokestatic 93, 3) := by decide +kernel
theorem dX9_isLine_27 : decode cX9_isLine 27 = .ok (.ireturn, 1) := by decide +kernel
set_option maxRecDepth 20000 in
theorem ggX9_ground_X9_in : GoodIn wsX9_ground wsX9_in := goodIn_r _ [5] (by decide +kernel) (by decide +kernel)
set_option maxRecDepth 20000 in
theorem gX9_ground_X9_in : GoodIn wsX9_ground (va_wsS RX9 93 yX9_in wsX9_in) := goodIn_app (goodIn_of _ (by decide +kernel)) ggX9_ground_X9_in
set_option maxRecDepth 20000 in
theorem ggX9_ground_X9_layGround : GoodIn wsX9_ground wsX9_layGround := goodIn_r _ [9, 10, 11, 12, 13, 14, 15, 16, 17, 18, 19, 20, 21, 22, 23, 24, 25, 26, 27, 28, 29, 30, 31, 32, 33, 34, 35, 36, 37, 38, 39, 40, 41, 42, 43] (by decide +kernel) (by decide +kernel)
set_option maxRecDepth 20000 in
theorem gX9_ground_X9_layGround : GoodIn wsX9_ground (wsV RX9 81 RX9 yX9_layGround wsX9_layGround) := goodIn_app (goodIn_of _ (by decide +kernel)) ggX9_ground_X9_layGround
theorem dX9_ground_0 : decode cX9_ground 0 = .ok (.iload_n 1, 1) := by decide +kernel
theorem dX9_ground_1 : decode cX9_ground 1 = .ok (.i2l, 1) := by decide +kernel
theorem dX9_ground_2 : decode cX9_ground 2 = .ok (.lconst 1, 1) := by decide +kernel
theorem dX9_ground_3 : decode cX9_ground 3 = .ok (.ldc2_w 101, 3) := by decide +kernel
theorem dX9_ground_6 : decode cX9_ground 6 = .ok (.invokestatic 93, 3) := by decide +kernel
theorem dX9_ground_9 : decode cX9_ground 9 = .ok (.ifCond .eq 15, 3) := by decide +kernel
theorem dX9_ground_12 : decode cX9_ground 12 = .ok (.iload_n 2, 1) := by decide +kernel
theorem dX9_ground_13 : decode cX9_ground 13 = .ok (.i2l, 1) := by decide +kernel
theorem dX9_ground_14 : decode cX9_ground 14 = .ok (.lconst 1, 1) := by decide +kernel
theorem dX9_ground_15 : decode cX9_ground 15 = .ok (.ldc2_w 101, 3) := by decide +kernel
theorem dX9_ground_18 : decode cX9_ground 18 = .ok (.invokestatic 93, 3) := by decide +kernel
theorem dX9_ground_21 : decode cX9_ground 21 = .ok (.ifCond .ne 6, 3) := by decide +kernel
theorem dX9_ground_24 : decode cX9_ground 24 = .ok (.bipush (-2), 2) := by decide +kernel
theorem dX9_ground_26 : decode cX9_ground 26 = .ok (.ireturn, 1) := by decide +kernel
theorem dX9_ground_27 : decode cX9_ground 27 = .ok (.aload_n 0, 1) := by decide +kernel
theorem dX9_ground_28 : decode cX9_ground 28 = .ok (.iload_n 1, 1) := by decide +kernel
theorem dX9_ground_29 : decode cX9_ground 29 = .ok (.iload_n 2, 1) := by decide +kernel
theorem dX9_ground_30 : decode cX9_ground 30 = .ok (.invokevirtual 81, 3) := by decide +kernel
theorem dX9_ground_33 : decode cX9_ground 33 = .ok (.iload_n 1, 1) := by decide +kernel
theorem dX9_ground_34 : decode cX9_ground 34 = .ok (.iload_n 2, 1) := by decide +kernel
theorem dX9_ground_35 : decode cX9_ground 35 = .ok (.imul, 1) := by decide +kernel
theorem dX9_ground_36 : decode cX9_ground 36 = .ok (.ireturn, 1) := by decide +kernel
set_option maxRecDepth 20000 in
theorem ggX9_set_X9_isSlot : GoodIn wsX9_set wsX9_isSlot := goodIn_r _ [6, 7, 8, 9, 5, 10] (by decide +kernel) (by decide +kernel)
set_option maxRecDepth 20000 in
theorem gX9_set_X9_isSlot : GoodIn wsX9_set (va_wsS RX9 103 yX9_isSlot wsX9_isSlot) := goodIn_app (goodIn_of _ (by decide +kernel)) ggX9_set_X9_isSlot
set_option maxRecDepth 20000 in
theorem ggX9_set_X9_isCell : GoodIn wsX9_set wsX9_isCell := goodIn_r _ [14, 15, 16, 17, 5, 18, 19, 20, 8, 9, 10, 21, 22, 23, 24, 25, 26, 27, 28, 29, 30, 31, 32, 33, 34, 35, 36, 37, 38, 39, 40, 41, 42, 43, 44, 45, 46] (by decide +kernel) (by decide +kernel)
set_option maxRecDepth 20000 in
theorem gX9_set_X9_isCell : GoodIn wsX9_set (wsV RX9 107 RX9 yX9_isCell wsX9_isCell) := goodIn_app (goodIn_of _ (by decide +kernel)) ggX9_set_X9_isCell
set_option maxRecDepth 20000 in
theorem ggX9_set_X9_in : GoodIn wsX9_set wsX9_in := goodIn_r _ [10] (by decide +kernel) (by decide +kernel)
set_option maxRecDepth 20000 in
theorem gX9_set_X9_in : GoodIn wsX9_set (va_wsS RX9 93 yX9_in wsX9_in) := goodIn_app (goodIn_of _ (by decide +kernel)) ggX9_set_X9_in
theorem dX9_set_0 : decode cX9_set 0 = .ok (.iload_n 1, 1) := by decide +kernel
theorem dX9_set_1 : decode cX9_set 1 = .ok (.invokestatic 103, 3) := by decide +kernel
theorem dX9_set_4 : decode cX9_set 4 = .ok (.ifCond .eq 11, 3) := by decide +kernel
theorem dX9_set_7 : decode cX9_set 7 = .ok (.aload_n 0, 1) := by decide +kernel
theorem dX9_set_8 : decode cX9_set 8 = .ok (.iload_n 2, 1) := by decide +kernel
theorem dX9_set_9 : decode cX9_set 9 = .ok (.invokevirtual 107, 3) := by decide +kernel
theorem dX9_set_12 : decode cX9_set 12 = .ok (.ifCond .ne 5, 3) := by decide +kernel
theorem dX9_set_15 : decode cX9_set 15 = .ok (.iconst (-1), 1) := by decide +kernel
theorem dX9_set_16 : decode cX9_set 16 = .ok (.ireturn, 1) := by decide +kernel
theorem dX9_set_17 : decode cX9_set 17 = .ok (.iload_n 3, 1) := by decide +kernel
theorem dX9_set_18 : decode cX9_set 18 = .ok (.i2l, 1) := by decide +kernel
theorem dX9_set_19 : decode cX9_set 19 = .ok (.lconst 0, 1) := by decide +kernel
theorem dX9_set_20 : decode cX9_set 20 = .ok (.ldc2_w 110, 3) := by decide +kernel
theorem dX9_set_23 : decode cX9_set 23 = .ok (.invokestatic 93, 3) := by decide +kernel
theorem dX9_set_26 : decode cX9_set 26 = .ok (.ifCond .ne 6, 3) := by decide +kernel
theorem dX9_set_29 : decode cX9_set 29 = .ok (.bipush (-2), 2) := by decide +kernel
theorem dX9_set_31 : decode cX9_set 31 = .ok (.ireturn, 1) := by decide +kernel
theorem dX9_set_32 : decode cX9_set 32 = .ok (.aload_n 0, 1) := by decide +kernel
theorem dX9_set_33 : decode cX9_set 33 = .ok (.getfield 7, 3) := by decide +kernel
theorem dX9_set_36 : decode cX9_set 36 = .ok (.bipush 25, 2) := by decide +kernel
theorem dX9_set_38 : decode cX9_set 38 = .ok (.iload_n 1, 1) := by decide +kernel
theorem dX9_set_39 : decode cX9_set 39 = .ok (.imul, 1) := by decide +kernel
theorem dX9_set_40 : decode cX9_set 40 = .ok (.iload_n 2, 1) := by decide +kernel
theorem dX9_set_41 : decode cX9_set 41 = .ok (.iadd, 1) := by decide +kernel
theorem dX9_set_42 : decode cX9_set 42 = .ok (.iaload, 1) := by decide +kernel
theorem dX9_set_43 : decode cX9_set 43 = .ok (.istore 4, 2) := by decide +kernel
theorem dX9_set_45 : decode cX9_set 45 = .ok (.aload_n 0, 1) := by decide +kernel
theorem dX9_set_46 : decode cX9_set 46 = .ok (.getfield 7, 3) := by decide +kernel
theorem dX9_set_49 : decode cX9_set 49 = .ok (.bipush 25, 2) := by decide +kernel
theorem dX9_set_51 : decode cX9_set 51 = .ok (.iload_n 1, 1) := by decide +kernel
theorem dX9_set_52 : decode cX9_set 52 = .ok (.imul, 1) := by decide +kernel
theorem dX9_set_53 : decode cX9_set 53 = .ok (.iload_n 2, 1) := by decide +kernel
theorem dX9_set_54 : decode cX9_set 54 = .ok (.iadd, 1) := by decide +kernel
theorem dX9_set_55 : decode cX9_set 55 = .ok (.iload_n 3, 1) := by decide +kernel
theorem dX9_set_56 : decode cX9_set 56 = .ok (.iastore, 1) := by decide +kernel
theorem dX9_set_57 : decode cX9_set 57 = .ok (.iload 4, 2) := by decide +kernel
theorem dX9_set_59 : decode cX9_set 59 = .ok (.ireturn, 1) := by decide +kernel
set_option maxRecDepth 20000 in
theorem ggX9_height_X9_isSlot : GoodIn wsX9_height wsX9_isSlot := goodIn_r _ [5, 6, 7, 8, 4, 9] (by decide +kernel) (by decide +kernel)
set_option maxRecDepth 20000 in
theorem gX9_height_X9_isSlot : GoodIn wsX9_height (va_wsS RX9 103 yX9_isSlot wsX9_isSlot) := goodIn_app (goodIn_of _ (by decide +kernel)) ggX9_height_X9_isSlot
set_option maxRecDepth 20000 in
theorem ggX9_height_X9_isCell : GoodIn wsX9_height wsX9_isCell := goodIn_r _ [13, 14, 15, 16, 4, 17, 18, 19, 7, 8, 9, 20, 21, 22, 23, 24, 25, 26, 27, 28, 29, 30, 31, 32, 33, 34, 35, 36, 37, 38, 39, 40, 41, 42, 43, 44, 45] (by decide +kernel) (by decide +kernel)
set_option maxRecDepth 20000 in
theorem gX9_height_X9_isCell : GoodIn wsX9_height (wsV RX9 107 RX9 yX9_isCell wsX9_isCell) := goodIn_app (goodIn_of _ (by decide +kernel)) ggX9_height_X9_isCell
theorem dX9_height_0 : decode cX9_height 0 = .ok (.iload_n 1, 1) := by decide +kernel
theorem dX9_height_1 : decode cX9_height 1 = .ok (.invokestatic 103, 3) := by decide +kernel
theorem dX9_height_4 : decode cX9_height 4 = .ok (.ifCond .eq 25, 3) := by decide +kernel
theorem dX9_height_7 : decode cX9_height 7 = .ok (.aload_n 0, 1) := by decide +kernel
theorem dX9_height_8 : decode cX9_height 8 = .ok (.iload_n 2, 1) := by decide +kernel
theorem dX9_height_9 : decode cX9_height 9 = .ok (.invokevirtual 107, 3) := by decide +kernel
theorem dX9_height_12 : decode cX9_height 12 = .ok (.ifCond .eq 17, 3) := by decide +kernel
theorem dX9_height_15 : decode cX9_height 15 = .ok (.aload_n 0, 1) := by decide +kernel
theorem dX9_height_16 : decode cX9_height 16 = .ok (.getfield 7, 3) := by decide +kernel
theorem dX9_height_19 : decode cX9_height 19 = .ok (.bipush 25, 2) := by decide +kernel
theorem dX9_height_21 : decode cX9_height 21 = .ok (.iload_n 1, 1) := by decide +kernel
theorem dX9_height_22 : decode cX9_height 22 = .ok (.imul, 1) := by decide +kernel
theorem dX9_height_23 : decode cX9_height 23 = .ok (.iload_n 2, 1) := by decide +kernel
theorem dX9_height_24 : decode cX9_height 24 = .ok (.iadd, 1) := by decide +kernel
theorem dX9_height_25 : decode cX9_height 25 = .ok (.iaload, 1) := by decide +kernel
theorem dX9_height_26 : decode cX9_height 26 = .ok (.goto 4, 3) := by decide +kernel
theorem dX9_height_29 : decode cX9_height 29 = .ok (.iconst (-1), 1) := by decide +kernel
theorem dX9_height_30 : decode cX9_height 30 = .ok (.ireturn, 1) := by decide +kernel
set_option maxRecDepth 20000 in
theorem ggX9_copy_X9_isSlot : GoodIn wsX9_copy wsX9_isSlot := goodIn_r _ [5, 6, 7, 8, 4, 9] (by decide +kernel) (by decide +kernel)
set_option maxRecDepth 20000 in
theorem gX9_copy_X9_isSlot : GoodIn wsX9_copy (va_wsS RX9 103 yX9_isSlot wsX9_isSlot) := goodIn_app (goodIn_of _ (by decide +kernel)) ggX9_copy_X9_isSlot
set_option maxRecDepth 20000 in
theorem ggX9_copy_X9_cells : GoodIn wsX9_copy wsX9_cells := goodIn_r _ [13, 14, 15, 16, 17, 18, 19, 20, 21, 22, 23, 24, 25, 26, 27, 28, 29, 30, 31, 32, 33, 34, 35, 36, 37, 38, 39, 40, 41] (by decide +kernel) (by decide +kernel)
set_option maxRecDepth 20000 in
theorem gX9_copy_X9_cells : GoodIn wsX9_copy (wsV RX9 97 RX9 yX9_cells wsX9_cells) := goodIn_app (goodIn_of _ (by decide +kernel)) ggX9_copy_X9_cells
theorem dX9_copy_0 : decode cX9_copy 0 = .ok (.iload_n 1, 1) := by decide +kernel
theorem dX9_copy_1 : decode cX9_copy 1 = .ok (.invokestatic 103, 3) := by decide +kernel
theorem dX9_copy_4 : decode cX9_copy 4 = .ok (.ifCond .eq 10, 3) := by decide +kernel
theorem dX9_copy_7 : decode cX9_copy 7 = .ok (.iload_n 2, 1) := by decide +kernel
theorem dX9_copy_8 : decode cX9_copy 8 = .ok (.invokestatic 103, 3) := by decide +kernel
theorem dX9_copy_11 : decode cX9_copy 11 = .ok (.ifCond .ne 5, 3) := by decide +kernel
theorem dX9_copy_14 : decode cX9_copy 14 = .ok (.iconst (-1), 1) := by decide +kernel
theorem dX9_copy_15 : decode cX9_copy 15 = .ok (.ireturn, 1) := by decide +kernel
theorem dX9_copy_16 : decode cX9_copy 16 = .ok (.iconst 0, 1) := by decide +kernel
theorem dX9_copy_17 : decode cX9_copy 17 = .ok (.istore_n 3, 1) := by decide +kernel
theorem dX9_copy_18 : decode cX9_copy 18 = .ok (.iconst 0, 1) := by decide +kernel
theorem dX9_copy_19 : decode cX9_copy 19 = .ok (.istore 4, 2) := by decide +kernel
theorem dX9_copy_21 : decode cX9_copy 21 = .ok (.iload 4, 2) := by decide +kernel
theorem dX9_copy_23 : decode cX9_copy 23 = .ok (.aload_n 0, 1) := by decide +kernel
theorem dX9_copy_24 : decode cX9_copy 24 = .ok (.invokevirtual 97, 3) := by decide +kernel
theorem dX9_copy_27 : decode cX9_copy 27 = .ok (.if_icmp .ge 68, 3) := by decide +kernel
theorem dX9_copy_30 : decode cX9_copy 30 = .ok (.iload_n 3, 1) := by decide +kernel
theorem dX9_copy_31 : decode cX9_copy 31 = .ok (.aload_n 0, 1) := by decide +kernel
theorem dX9_copy_32 : decode cX9_copy 32 = .ok (.getfield 7, 3) := by decide +kernel
theorem dX9_copy_35 : decode cX9_copy 35 = .ok (.bipush 25, 2) := by decide +kernel
theorem dX9_copy_37 : decode cX9_copy 37 = .ok (.iload_n 1, 1) := by decide +kernel
theorem dX9_copy_38 : decode cX9_copy 38 = .ok (.imul, 1) := by decide +kernel
theorem dX9_copy_39 : decode cX9_copy 39 = .ok (.iload 4, 2) := by decide +kernel
theorem dX9_copy_41 : decode cX9_copy 41 = .ok (.iadd, 1) := by decide +kernel
theorem dX9_copy_42 : decode cX9_copy 42 = .ok (.iaload, 1) := by decide +kernel
theorem dX9_copy_43 : decode cX9_copy 43 = .ok (.aload_n 0, 1) := by decide +kernel
theorem dX9_copy_44 : decode cX9_copy 44 = .ok (.getfield 7, 3) := by decide +kernel
theorem dX9_copy_47 : decode cX9_copy 47 = .ok (.bipush 25, 2) := by decide +kernel
theorem dX9_copy_49 : decode cX9_copy 49 = .ok (.iload_n 2, 1) := by decide +kernel
theorem dX9_copy_50 : decode cX9_copy 50 = .ok (.imul, 1) := by decide +kernel
theorem dX9_copy_51 : decode cX9_copy 51 = .ok (.iload 4, 2) := by decide +kernel
theorem dX9_copy_53 : decode cX9_copy 53 = .ok (.iadd, 1) := by decide +kernel
theorem dX9_copy_54 : decode cX9_copy 54 = .ok (.iaload, 1) := by decide +kernel
theorem dX9_copy_55 : decode cX9_copy 55 = .ok (.if_icmp .eq 7, 3) := by decide +kernel
theorem dX9_copy_58 : decode cX9_copy 58 = .ok (.iconst 1, 1) := by decide +kernel
theorem dX9_copy_59 : decode cX9_copy 59 = .ok (.goto 4, 3) := by decide +kernel
theorem dX9_copy_62 : decode cX9_copy 62 = .ok (.iconst 0, 1) := by decide +kernel
theorem dX9_copy_63 : decode cX9_copy 63 = .ok (.iadd, 1) := by decide +kernel
theorem dX9_copy_64 : decode cX9_copy 64 = .ok (.istore_n 3, 1) := by decide +kernel
theorem dX9_copy_65 : decode cX9_copy 65 = .ok (.aload_n 0, 1) := by decide +kernel
theorem dX9_copy_66 : decode cX9_copy 66 = .ok (.getfield 7, 3) := by decide +kernel
theorem dX9_copy_69 : decode cX9_copy 69 = .ok (.bipush 25, 2) := by decide +kernel
theorem dX9_copy_71 : decode cX9_copy 71 = .ok (.iload_n 2, 1) := by decide +kernel
theorem dX9_copy_72 : decode cX9_copy 72 = .ok (.imul, 1) := by decide +kernel
theorem dX9_copy_73 : decode cX9_copy 73 = .ok (.iload 4, 2) := by decide +kernel
theorem dX9_copy_75 : decode cX9_copy 75 = .ok (.iadd, 1) := by decide +kernel
theorem dX9_copy_76 : decode cX9_copy 76 = .ok (.aload_n 0, 1) := by decide +kernel
theorem dX9_copy_77 : decode cX9_copy 77 = .ok (.getfield 7, 3) := by decide +kernel
theorem dX9_copy_80 : decode cX9_copy 80 = .ok (.bipush 25, 2) := by decide +kernel
theorem dX9_copy_82 : decode cX9_copy 82 = .ok (.iload_n 1, 1) := by decide +kernel
theorem dX9_copy_83 : decode cX9_copy 83 = .ok (.imul, 1) := by decide +kernel
theorem dX9_copy_84 : decode cX9_copy 84 = .ok (.iload 4, 2) := by decide +kernel
theorem dX9_copy_86 : decode cX9_copy 86 = .ok (.iadd, 1) := by decide +kernel
theorem dX9_copy_87 : decode cX9_copy 87 = .ok (.iaload, 1) := by decide +kernel
theorem dX9_copy_88 : decode cX9_copy 88 = .ok (.iastore, 1) := by decide +kernel
theorem dX9_copy_89 : decode cX9_copy 89 = .ok (.iinc 4 1, 3) := by decide +kernel
theorem dX9_copy_92 : decode cX9_copy 92 = .ok (.goto (-71), 3) := by decide +kernel
theorem dX9_copy_95 : decode cX9_copy 95 = .ok (.iload_n 3, 1) := by decide +kernel
theorem dX9_copy_96 : decode cX9_copy 96 = .ok (.ireturn, 1) := by decide +kernel
set_option maxRecDepth 20000 in
theorem ggX9_cubesOf_X9_cells : GoodIn wsX9_cubesOf wsX9_cells := goodIn_r _ [6, 7, 8, 9, 10, 11, 12, 13, 14, 15, 16, 17, 18, 19, 20, 21, 22, 23, 24, 25, 26, 27, 28, 29, 30, 31, 32, 33, 34] (by decide +kernel) (by decide +kernel)
set_option maxRecDepth 20000 in
theorem gX9_cubesOf_X9_cells : GoodIn wsX9_cubesOf (wsV RX9 97 RX9 yX9_cells wsX9_cells) := goodIn_app (goodIn_of _ (by decide +kernel)) ggX9_cubesOf_X9_cells
theorem dX9_cubesOf_0 : decode cX9_cubesOf 0 = .ok (.iconst 0, 1) := by decide +kernel
theorem dX9_cubesOf_1 : decode cX9_cubesOf 1 = .ok (.istore_n 2, 1) := by decide +kernel
theorem dX9_cubesOf_2 : decode cX9_cubesOf 2 = .ok (.iconst 0, 1) := by decide +kernel
theorem dX9_cubesOf_3 : decode cX9_cubesOf 3 = .ok (.istore_n 3, 1) := by decide +kernel
theorem dX9_cubesOf_4 : decode cX9_cubesOf 4 = .ok (.iload_n 3, 1) := by decide +kernel
theorem dX9_cubesOf_5 : decode cX9_cubesOf 5 = .ok (.aload_n 0, 1) := by decide +kernel
theorem dX9_cubesOf_6 : decode cX9_cubesOf 6 = .ok (.invokevirtual 97, 3) := by decide +kernel
theorem dX9_cubesOf_9 : decode cX9_cubesOf 9 = .ok (.if_icmp .ge 23, 3) := by decide +kernel
theorem dX9_cubesOf_12 : decode cX9_cubesOf 12 = .ok (.iload_n 2, 1) := by decide +kernel
theorem dX9_cubesOf_13 : decode cX9_cubesOf 13 = .ok (.aload_n 0, 1) := by decide +kernel
theorem dX9_cubesOf_14 : decode cX9_cubesOf 14 = .ok (.getfield 7, 3) := by decide +kernel
theorem dX9_cubesOf_17 : decode cX9_cubesOf 17 = .ok (.bipush 25, 2) := by decide +kernel
theorem dX9_cubesOf_19 : decode cX9_cubesOf 19 = .ok (.iload_n 1, 1) := by decide +kernel
theorem dX9_cubesOf_20 : decode cX9_cubesOf 20 = .ok (.imul, 1) := by decide +kernel
theorem dX9_cubesOf_21 : decode cX9_cubesOf 21 = .ok (.iload_n 3, 1) := by decide +kernel
theorem dX9_cubesOf_22 : decode cX9_cubesOf 22 = .ok (.iadd, 1) := by decide +kernel
theorem dX9_cubesOf_23 : decode cX9_cubesOf 23 = .ok (.iaload, 1) := by decide +kernel
theorem dX9_cubesOf_24 : decode cX9_cubesOf 24 = .ok (.iadd, 1) := by decide +kernel
theorem dX9_cubesOf_25 : decode cX9_cubesOf 25 = .ok (.istore_n 2, 1) := by decide +kernel
theorem dX9_cubesOf_26 : decode cX9_cubesOf 26 = .ok (.iinc 3 1, 3) := by decide +kernel
theorem dX9_cubesOf_29 : decode cX9_cubesOf 29 = .ok (.goto (-25), 3) := by decide +kernel
theorem dX9_cubesOf_32 : decode cX9_cubesOf 32 = .ok (.iload_n 2, 1) := by decide +kernel
theorem dX9_cubesOf_33 : decode cX9_cubesOf 33 = .ok (.ireturn, 1) := by decide +kernel
set_option maxRecDepth 20000 in
theorem ggX9_cubes_X9_isSlot : GoodIn wsX9_cubes wsX9_isSlot := goodIn_r _ [4, 5, 6, 7, 3, 8] (by decide +kernel) (by decide +kernel)
set_option maxRecDepth 20000 in
theorem gX9_cubes_X9_isSlot : GoodIn wsX9_cubes (va_wsS RX9 103 yX9_isSlot wsX9_isSlot) := goodIn_app (goodIn_of _ (by decide +kernel)) ggX9_cubes_X9_isSlot
set_option maxRecDepth 20000 in
theorem ggX9_cubes_X9_cubesOf : GoodIn wsX9_cubes wsX9_cubesOf := goodIn_r _ [12, 13, 14, 15, 16, 3, 17, 18, 19, 20, 21, 22, 23, 24, 25, 26, 27, 28, 29, 30, 31, 32, 33, 34, 35, 36, 37, 38, 39, 40, 41, 42, 43, 44, 45] (by decide +kernel) (by decide +kernel)
set_option maxRecDepth 20000 in
theorem gX9_cubes_X9_cubesOf : GoodIn wsX9_cubes (wsV RX9 112 RX9 yX9_cubesOf wsX9_cubesOf) := goodIn_app (goodIn_of _ (by decide +kernel)) ggX9_cubes_X9_cubesOf
theorem dX9_cubes_0 : decode cX9_cubes 0 = .ok (.iload_n 1, 1) := by decide +kernel
theorem dX9_cubes_1 : decode cX9_cubes 1 = .ok (.invokestatic 103, 3) := by decide +kernel
theorem dX9_cubes_4 : decode cX9_cubes 4 = .ok (.ifCond .eq 11, 3) := by decide +kernel
theorem dX9_cubes_7 : decode cX9_cubes 7 = .ok (.aload_n 0, 1) := by decide +kernel
theorem dX9_cubes_8 : decode cX9_cubes 8 = .ok (.iload_n 1, 1) := by decide +kernel
theorem dX9_cubes_9 : decode cX9_cubes 9 = .ok (.invokevirtual 112, 3) := by decide +kernel
theorem dX9_cubes_12 : decode cX9_cubes 12 = .ok (.goto 4, 3) := by decide +kernel
theorem dX9_cubes_15 : decode cX9_cubes 15 = .ok (.iconst (-1), 1) := by decide +kernel
theorem dX9_cubes_16 : decode cX9_cubes 16 = .ok (.ireturn, 1) := by decide +kernel
theorem dX9_cellOf_0 : decode cX9_cellOf 0 = .ok (.iload_n 1, 1) := by decide +kernel
theorem dX9_cellOf_1 : decode cX9_cellOf 1 = .ok (.ifCond .eq 14, 3) := by decide +kernel
theorem dX9_cellOf_4 : decode cX9_cellOf 4 = .ok (.iload_n 3, 1) := by decide +kernel
theorem dX9_cellOf_5 : decode cX9_cellOf 5 = .ok (.aload_n 0, 1) := by decide +kernel
theorem dX9_cellOf_6 : decode cX9_cellOf 6 = .ok (.getfield 85, 3) := by decide +kernel
theorem dX9_cellOf_9 : decode cX9_cellOf 9 = .ok (.imul, 1) := by decide +kernel
theorem dX9_cellOf_10 : decode cX9_cellOf 10 = .ok (.iload_n 2, 1) := by decide +kernel
theorem dX9_cellOf_11 : decode cX9_cellOf 11 = .ok (.iadd, 1) := by decide +kernel
theorem dX9_cellOf_12 : decode cX9_cellOf 12 = .ok (.goto 11, 3) := by decide +kernel
theorem dX9_cellOf_15 : decode cX9_cellOf 15 = .ok (.iload_n 2, 1) := by decide +kernel
theorem dX9_cellOf_16 : decode cX9_cellOf 16 = .ok (.aload_n 0, 1) := by decide +kernel
theorem dX9_cellOf_17 : decode cX9_cellOf 17 = .ok (.getfield 85, 3) := by decide +kernel
theorem dX9_cellOf_20 : decode cX9_cellOf 20 = .ok (.imul, 1) := by decide +kernel
theorem dX9_cellOf_21 : decode cX9_cellOf 21 = .ok (.iload_n 3, 1) := by decide +kernel
theorem dX9_cellOf_22 : decode cX9_cellOf 22 = .ok (.iadd, 1) := by decide +kernel
theorem dX9_cellOf_23 : decode cX9_cellOf 23 = .ok (.ireturn, 1) := by decide +kernel
theorem dX9_lengthOf_0 : decode cX9_lengthOf 0 = .ok (.iload_n 1, 1) := by decide +kernel
theorem dX9_lengthOf_1 : decode cX9_lengthOf 1 = .ok (.ifCond .eq 10, 3) := by decide +kernel
theorem dX9_lengthOf_4 : decode cX9_lengthOf 4 = .ok (.aload_n 0, 1) := by decide +kernel
theorem dX9_lengthOf_5 : decode cX9_lengthOf 5 = .ok (.getfield 88, 3) := by decide +kernel
theorem dX9_lengthOf_8 : decode cX9_lengthOf 8 = .ok (.goto 7, 3) := by decide +kernel
theorem dX9_lengthOf_11 : decode cX9_lengthOf 11 = .ok (.aload_n 0, 1) := by decide +kernel
theorem dX9_lengthOf_12 : decode cX9_lengthOf 12 = .ok (.getfield 85, 3) := by decide +kernel
theorem dX9_lengthOf_15 : decode cX9_lengthOf 15 = .ok (.ireturn, 1) := by decide +kernel
set_option maxRecDepth 20000 in
theorem ggX9_greatestOf_X9_lengthOf : GoodIn wsX9_greatestOf wsX9_lengthOf := goodIn_r _ [6, 7, 8, 13, 14, 15, 16, 17, 18, 19, 20, 21, 22, 23, 24, 25, 26, 27, 28, 29, 30, 31, 32, 33, 34, 35, 36, 37, 38] (by decide +kernel) (by decide +kernel)
set_option maxRecDepth 20000 in
theorem gX9_greatestOf_X9_lengthOf : GoodIn wsX9_greatestOf (wsV RX9 116 RX9 yX9_lengthOf wsX9_lengthOf) := goodIn_app (goodIn_of _ (by decide +kernel)) ggX9_greatestOf_X9_lengthOf
set_option maxRecDepth 20000 in
theorem ggX9_greatestOf_X9_cellOf : GoodIn wsX9_greatestOf wsX9_cellOf := goodIn_r _ [12, 8, 13, 14, 15, 16, 17, 18, 19, 20, 21, 22, 23, 24, 25, 26, 27, 28, 29, 30, 31, 32, 33, 34, 35, 36, 37, 38] (by decide +kernel) (by decide +kernel)
set_option maxRecDepth 20000 in
theorem gX9_greatestOf_X9_cellOf : GoodIn wsX9_greatestOf (wsV RX9 120 RX9 yX9_cellOf wsX9_cellOf) := goodIn_app (goodIn_of _ (by decide +kernel)) ggX9_greatestOf_X9_cellOf
theorem dX9_greatestOf_0 : decode cX9_greatestOf 0 = .ok (.iconst 0, 1) := by decide +kernel
theorem dX9_greatestOf_1 : decode cX9_greatestOf 1 = .ok (.istore 4, 2) := by decide +kernel
theorem dX9_greatestOf_3 : decode cX9_greatestOf 3 = .ok (.iconst 0, 1) := by decide +kernel
theorem dX9_greatestOf_4 : decode cX9_greatestOf 4 = .ok (.istore 5, 2) := by decide +kernel
theorem dX9_greatestOf_6 : decode cX9_greatestOf 6 = .ok (.iload 5, 2) := by decide +kernel
theorem dX9_greatestOf_8 : decode cX9_greatestOf 8 = .ok (.aload_n 0, 1) := by decide +kernel
theorem dX9_greatestOf_9 : decode cX9_greatestOf 9 = .ok (.iload_n 2, 1) := by decide +kernel
theorem dX9_greatestOf_10 : decode cX9_greatestOf 10 = .ok (.invokevirtual 116, 3) := by decide +kernel
theorem dX9_greatestOf_13 : decode cX9_greatestOf 13 = .ok (.if_icmp .ge 45, 3) := by decide +kernel
theorem dX9_greatestOf_16 : decode cX9_greatestOf 16 = .ok (.aload_n 0, 1) := by decide +kernel
theorem dX9_greatestOf_17 : decode cX9_greatestOf 17 = .ok (.getfield 7, 3) := by decide +kernel
theorem dX9_greatestOf_20 : decode cX9_greatestOf 20 = .ok (.bipush 25, 2) := by decide +kernel
theorem dX9_greatestOf_22 : decode cX9_greatestOf 22 = .ok (.iload_n 1, 1) := by decide +kernel
theorem dX9_greatestOf_23 : decode cX9_greatestOf 23 = .ok (.imul, 1) := by decide +kernel
theorem dX9_greatestOf_24 : decode cX9_greatestOf 24 = .ok (.aload_n 0, 1) := by decide +kernel
theorem dX9_greatestOf_25 : decode cX9_greatestOf 25 = .ok (.iload_n 2, 1) := by decide +kernel
theorem dX9_greatestOf_26 : decode cX9_greatestOf 26 = .ok (.iload_n 3, 1) := by decide +kernel
theorem dX9_greatestOf_27 : decode cX9_greatestOf 27 = .ok (.iload 5, 2) := by decide +kernel
theorem dX9_greatestOf_29 : decode cX9_greatestOf 29 = .ok (.invokevirtual 120, 3) := by decide +kernel
theorem dX9_greatestOf_32 : decode cX9_greatestOf 32 = .ok (.iadd, 1) := by decide +kernel
theorem dX9_greatestOf_33 : decode cX9_greatestOf 33 = .ok (.iaload, 1) := by decide +kernel
theorem dX9_greatestOf_34 : decode cX9_greatestOf 34 = .ok (.istore 6, 2) := by decide +kernel
theorem dX9_greatestOf_36 : decode cX9_greatestOf 36 = .ok (.iload 6, 2) := by decide +kernel
theorem dX9_greatestOf_38 : decode cX9_greatestOf 38 = .ok (.iload 4, 2) := by decide +kernel
theorem dX9_greatestOf_40 : decode cX9_greatestOf 40 = .ok (.if_icmp .le 8, 3) := by decide +kernel
theorem dX9_greatestOf_43 : decode cX9_greatestOf 43 = .ok (.iload 6, 2) := by decide +kernel
theorem dX9_greatestOf_45 : decode cX9_greatestOf 45 = .ok (.goto 5, 3) := by decide +kernel
theorem dX9_greatestOf_48 : decode cX9_greatestOf 48 = .ok (.iload 4, 2) := by decide +kernel
theorem dX9_greatestOf_50 : decode cX9_greatestOf 50 = .ok (.istore 4, 2) := by decide +kernel
theorem dX9_greatestOf_52 : decode cX9_greatestOf 52 = .ok (.iinc 5 1, 3) := by decide +kernel
theorem dX9_greatestOf_55 : decode cX9_greatestOf 55 = .ok (.goto (-49), 3) := by decide +kernel
theorem dX9_greatestOf_58 : decode cX9_greatestOf 58 = .ok (.iload 4, 2) := by decide +kernel
theorem dX9_greatestOf_60 : decode cX9_greatestOf 60 = .ok (.ireturn, 1) := by decide +kernel
set_option maxRecDepth 20000 in
theorem ggX9_sumOf_X9_lengthOf : GoodIn wsX9_sumOf wsX9_lengthOf := goodIn_r _ [6, 7, 8, 13, 14, 15, 16, 17, 18, 19, 20, 21, 22, 23, 24, 25, 26, 27, 28, 29, 30, 31, 32, 33, 34, 35, 36, 37, 38] (by decide +kernel) (by decide +kernel)
set_option maxRecDepth 20000 in
theorem gX9_sumOf_X9_lengthOf : GoodIn wsX9_sumOf (wsV RX9 116 RX9 yX9_lengthOf wsX9_lengthOf) := goodIn_app (goodIn_of _ (by decide +kernel)) ggX9_sumOf_X9_lengthOf
set_option maxRecDepth 20000 in
theorem ggX9_sumOf_X9_cellOf : GoodIn wsX9_sumOf wsX9_cellOf := goodIn_r _ [12, 8, 13, 14, 15, 16, 17, 18, 19, 20, 21, 22, 23, 24, 25, 26, 27, 28, 29, 30, 31, 32, 33, 34, 35, 36, 37, 38] (by decide +kernel) (by decide +kernel)
set_option maxRecDepth 20000 in
theorem gX9_sumOf_X9_cellOf : GoodIn wsX9_sumOf (wsV RX9 120 RX9 yX9_cellOf wsX9_cellOf) := goodIn_app (goodIn_of _ (by decide +kernel)) ggX9_sumOf_X9_cellOf
theorem dX9_sumOf_0 : decode cX9_sumOf 0 = .ok (.iconst 0, 1) := by decide +kernel
theorem dX9_sumOf_1 : decode cX9_sumOf 1 = .ok (.istore 4, 2) := by decide +kernel
theorem dX9_sumOf_3 : decode cX9_sumOf 3 = .ok (.iconst 0, 1) := by decide +kernel
theorem dX9_sumOf_4 : decode cX9_sumOf 4 = .ok (.istore 5, 2) := by decide +kernel
theorem dX9_sumOf_6 : decode cX9_sumOf 6 = .ok (.iload 5, 2) := by decide +kernel
theorem dX9_sumOf_8 : decode cX9_sumOf 8 = .ok (.aload_n 0, 1) := by decide +kernel
theorem dX9_sumOf_9 : decode cX9_sumOf 9 = .ok (.iload_n 2, 1) := by decide +kernel
theorem dX9_sumOf_10 : decode cX9_sumOf 10 = .ok (.invokevirtual 116, 3) := by decide +kernel
theorem dX9_sumOf_13 : decode cX9_sumOf 13 = .ok (.if_icmp .ge 32, 3) := by decide +kernel
theorem dX9_sumOf_16 : decode cX9_sumOf 16 = .ok (.iload 4, 2) := by decide +kernel
theorem dX9_sumOf_18 : decode cX9_sumOf 18 = .ok (.aload_n 0, 1) := by decide +kernel
theorem dX9_sumOf_19 : decode cX9_sumOf 19 = .ok (.getfield 7, 3) := by decide +kernel
theorem dX9_sumOf_22 : decode cX9_sumOf 22 = .ok (.bipush 25, 2) := by decide +kernel
theorem dX9_sumOf_24 : decode cX9_sumOf 24 = .ok (.iload_n 1, 1) := by decide +kernel
theorem dX9_sumOf_25 : decode cX9_sumOf 25 = .ok (.imul, 1) := by decide +kernel
theorem dX9_sumOf_26 : decode cX9_sumOf 26 = .ok (.aload_n 0, 1) := by decide +kernel
theorem dX9_sumOf_27 : decode cX9_sumOf 27 = .ok (.iload_n 2, 1) := by decide +kernel
theorem dX9_sumOf_28 : decode cX9_sumOf 28 = .ok (.iload_n 3, 1) := by decide +kernel
theorem dX9_sumOf_29 : decode cX9_sumOf 29 = .ok (.iload 5, 2) := by decide +kernel
theorem dX9_sumOf_31 : decode cX9_sumOf 31 = .ok (.invokevirtual 120, 3) := by decide +kernel
theorem dX9_sumOf_34 : decode cX9_sumOf 34 = .ok (.iadd, 1) := by decide +kernel
theorem dX9_sumOf_35 : decode cX9_sumOf 35 = .ok (.iaload, 1) := by decide +kernel
theorem dX9_sumOf_36 : decode cX9_sumOf 36 = .ok (.iadd, 1) := by decide +kernel
theorem dX9_sumOf_37 : decode cX9_sumOf 37 = .ok (.istore 4, 2) := by decide +kernel
theorem dX9_sumOf_39 : decode cX9_sumOf 39 = .ok (.iinc 5 1, 3) := by decide +kernel
theorem dX9_sumOf_42 : decode cX9_sumOf 42 = .ok (.goto (-36), 3) := by decide +kernel
theorem dX9_sumOf_45 : decode cX9_sumOf 45 = .ok (.iload 4, 2) := by decide +kernel
theorem dX9_sumOf_47 : decode cX9_sumOf 47 = .ok (.ireturn, 1) := by decide +kernel
set_option maxRecDepth 20000 in
theorem ggX9_front_X9_isSlot : GoodIn wsX9_front wsX9_isSlot := goodIn_r _ [4, 5, 6, 7, 3, 8] (by decide +kernel) (by decide +kernel)
set_option maxRecDepth 20000 in
theorem gX9_front_X9_isSlot : GoodIn wsX9_front (va_wsS RX9 103 yX9_isSlot wsX9_isSlot) := goodIn_app (goodIn_of _ (by decide +kernel)) ggX9_front_X9_isSlot
set_option maxRecDepth 20000 in
theorem ggX9_front_X9_isLine : GoodIn wsX9_front wsX9_isLine := goodIn_r _ [12, 13, 14, 6, 7, 3, 8, 28, 29, 30, 31, 32, 33, 34, 35, 36, 37, 38, 39, 40, 41, 42, 43, 44, 45, 46, 47, 48, 49, 50, 51, 52, 53] (by decide +kernel) (by decide +kernel)
set_option maxRecDepth 20000 in
theorem gX9_front_X9_isLine : GoodIn wsX9_front (wsV RX9 124 RX9 yX9_isLine wsX9_isLine) := goodIn_app (goodIn_of _ (by decide +kernel)) ggX9_front_X9_isLine
set_option maxRecDepth 20000 in
theorem ggX9_front_X9_greatestOf : GoodIn wsX9_front wsX9_greatestOf := goodIn_r _ [18, 19, 20, 21, 22, 3, 23, 14, 13, 24, 25, 26, 27, 28, 29, 30, 31, 32, 33, 34, 35, 36, 37, 38, 39, 40, 41, 42, 43, 44, 45, 46, 47, 48, 49, 50, 51, 52, 53] (by decide +kernel) (by decide +kernel)
set_option maxRecDepth 20000 in
theorem gX9_front_X9_greatestOf : GoodIn wsX9_front (wsV RX9 128 RX9 yX9_greatestOf wsX9_greatestOf) := goodIn_app (goodIn_of _ (by decide +kernel)) ggX9_front_X9_greatestOf
theorem dX9_front_0 : decode cX9_front 0 = .ok (.iload_n 1, 1) := by decide +kernel
theorem dX9_front_1 : decode cX9_front 1 = .ok (.invokestatic 103, 3) := by decide +kernel
theorem dX9_front_4 : decode cX9_front 4 = .ok (.ifCond .eq 22, 3) := by decide +kernel
theorem dX9_front_7 : decode cX9_front 7 = .ok (.aload_n 0, 1) := by decide +kernel
theorem dX9_front_8 : decode cX9_front 8 = .ok (.iconst 1, 1) := by decide +kernel
theorem dX9_front_9 : decode cX9_front 9 = .ok (.iload_n 2, 1) := by decide +kernel
theorem dX9_front_10 : decode cX9_front 10 = .ok (.invokevirtual 124, 3) := by decide +kernel
theorem dX9_front_13 : decode cX9_front 13 = .ok (.ifCond .eq 13, 3) := by decide +kernel
theorem dX9_front_16 : decode cX9_front 16 = .ok (.aload_n 0, 1) := by decide +kernel
theorem dX9_front_17 : decode cX9_front 17 = .ok (.iload_n 1, 1) := by decide +kernel
theorem dX9_front_18 : decode cX9_front 18 = .ok (.iconst 1, 1) := by decide +kernel
theorem dX9_front_19 : decode cX9_front 19 = .ok (.iload_n 2, 1) := by decide +kernel
theorem dX9_front_20 : decode cX9_front 20 = .ok (.invokevirtual 128, 3) := by decide +kernel
theorem dX9_front_23 : decode cX9_front 23 = .ok (.goto 4, 3) := by decide +kernel
theorem dX9_front_26 : decode cX9_front 26 = .ok (.iconst (-1), 1) := by decide +kernel
theorem dX9_front_27 : decode cX9_front 27 = .ok (.ireturn, 1) := by decide +kernel
set_option maxRecDepth 20000 in
theorem ggX9_side_X9_isSlot : GoodIn wsX9_side wsX9_isSlot := goodIn_r _ [4, 5, 6, 7, 3, 8] (by decide +kernel) (by decide +kernel)
set_option maxRecDepth 20000 in
theorem gX9_side_X9_isSlot : GoodIn wsX9_side (va_wsS RX9 103 yX9_isSlot wsX9_isSlot) := goodIn_app (goodIn_of _ (by decide +kernel)) ggX9_side_X9_isSlot
set_option maxRecDepth 20000 in
theorem ggX9_side_X9_isLine : GoodIn wsX9_side wsX9_isLine := goodIn_r _ [12, 13, 14, 6, 7, 3, 8, 28, 29, 30, 31, 32, 33, 34, 35, 36, 37, 38, 39, 40, 41, 42, 43, 44, 45, 46, 47, 48, 49, 50, 51, 52, 53] (by decide +kernel) (by decide +kernel)
set_option maxRecDepth 20000 in
theorem gX9_side_X9_isLine : GoodIn wsX9_side (wsV RX9 124 RX9 yX9_isLine wsX9_isLine) := goodIn_app (goodIn_of _ (by decide +kernel)) ggX9_side_X9_isLine
set_option maxRecDepth 20000 in
theorem ggX9_side_X9_greatestOf : GoodIn wsX9_side wsX9_greatestOf := goodIn_r _ [18, 19, 20, 21, 22, 3, 23, 14, 13, 24, 25, 26, 27, 28, 29, 30, 31, 32, 33, 34, 35, 36, 37, 38, 39, 40, 41, 42, 43, 44, 45, 46, 47, 48, 49, 50, 51, 52, 53] (by decide +kernel) (by decide +kernel)
set_option maxRecDepth 20000 in
theorem gX9_side_X9_greatestOf : GoodIn wsX9_side (wsV RX9 128 RX9 yX9_greatestOf wsX9_greatestOf) := goodIn_app (goodIn_of _ (by decide +kernel)) ggX9_side_X9_greatestOf
theorem dX9_side_0 : decode cX9_side 0 = .ok (.iload_n 1, 1) := by decide +kernel
theorem dX9_side_1 : decode cX9_side 1 = .ok (.invokestatic 103, 3) := by decide +kernel
theorem dX9_side_4 : decode cX9_side 4 = .ok (.ifCond .eq 22, 3) := by decide +kernel
theorem dX9_side_7 : decode cX9_side 7 = .ok (.aload_n 0, 1) := by decide +kernel
theorem dX9_side_8 : decode cX9_side 8 = .ok (.iconst 0, 1) := by decide +kernel
theorem dX9_side_9 : decode cX9_side 9 = .ok (.iload_n 2, 1) := by decide +kernel
theorem dX9_side_10 : decode cX9_side 10 = .ok (.invokevirtual 124, 3) := by decide +kernel
theorem dX9_side_13 : decode cX9_side 13 = .ok (.ifCond .eq 13, 3) := by decide +kernel
theorem dX9_side_16 : decode cX9_side 16 = .ok (.aload_n 0, 1) := by decide +kernel
theorem dX9_side_17 : decode cX9_side 17 = .ok (.iload_n 1, 1) := by decide +kernel
theorem dX9_side_18 : decode cX9_side 18 = .ok (.iconst 0, 1) := by decide +kernel
theorem dX9_side_19 : decode cX9_side 19 = .ok (.iload_n 2, 1) := by decide +kernel
theorem dX9_side_20 : decode cX9_side 20 = .ok (.invokevirtual 128, 3) := by decide +kernel
theorem dX9_side_23 : decode cX9_side 23 = .ok (.goto 4, 3) := by decide +kernel
theorem dX9_side_26 : decode cX9_side 26 = .ok (.iconst (-1), 1) := by decide +kernel
theorem dX9_side_27 : decode cX9_side 27 = .ok (.ireturn, 1) := by decide +kernel
set_option maxRecDepth 20000 in
theorem ggX9_sum_X9_isSlot : GoodIn wsX9_sum wsX9_isSlot := goodIn_r _ [4, 5, 6, 7, 3, 8] (by decide +kernel) (by decide +kernel)
set_option maxRecDepth 20000 in
theorem gX9_sum_X9_isSlot : GoodIn wsX9_sum (va_wsS RX9 103 yX9_isSlot wsX9_isSlot) := goodIn_app (goodIn_of _ (by decide +kernel)) ggX9_sum_X9_isSlot
set_option maxRecDepth 20000 in
theorem ggX9_sum_X9_isLine : GoodIn wsX9_sum wsX9_isLine := goodIn_r _ [12, 13, 14, 6, 7, 3, 8, 28, 29, 30, 31, 32, 33, 34, 35, 36, 37, 38, 39, 40, 41, 42, 43, 44, 45, 46, 47, 48, 49, 50, 51, 52, 53] (by decide +kernel) (by decide +kernel)
set_option maxRecDepth 20000 in
theorem gX9_sum_X9_isLine : GoodIn wsX9_sum (wsV RX9 124 RX9 yX9_isLine wsX9_isLine) := goodIn_app (goodIn_of _ (by decide +kernel)) ggX9_sum_X9_isLine
set_option maxRecDepth 20000 in
theorem ggX9_sum_X9_sumOf : GoodIn wsX9_sum wsX9_sumOf := goodIn_r _ [18, 19, 20, 21, 22, 3, 23, 14, 13, 24, 25, 26, 27, 28, 29, 30, 31, 32, 33, 34, 35, 36, 37, 38, 39, 40, 41, 42, 43, 44, 45, 46, 47, 48, 49, 50, 51, 52, 53] (by decide +kernel) (by decide +kernel)
set_option maxRecDepth 20000 in
theorem gX9_sum_X9_sumOf : GoodIn wsX9_sum (wsV RX9 132 RX9 yX9_sumOf wsX9_sumOf) := goodIn_app (goodIn_of _ (by decide +kernel)) ggX9_sum_X9_sumOf
theorem dX9_sum_0 : decode cX9_sum 0 = .ok (.iload_n 1, 1) := by decide +kernel
theorem dX9_sum_1 : decode cX9_sum 1 = .ok (.invokestatic 103, 3) := by decide +kernel
theorem dX9_sum_4 : decode cX9_sum 4 = .ok (.ifCond .eq 22, 3) := by decide +kernel
theorem dX9_sum_7 : decode cX9_sum 7 = .ok (.aload_n 0, 1) := by decide +kernel
theorem dX9_sum_8 : decode cX9_sum 8 = .ok (.iload_n 2, 1) := by decide +kernel
theorem dX9_sum_9 : decode cX9_sum 9 = .ok (.iload_n 3, 1) := by decide +kernel
theorem dX9_sum_10 : decode cX9_sum 10 = .ok (.invokevirtual 124, 3) := by decide +kernel
theorem dX9_sum_13 : decode cX9_sum 13 = .ok (.ifCond .eq 13, 3) := by decide +kernel
theorem dX9_sum_16 : decode cX9_sum 16 = .ok (.aload_n 0, 1) := by decide +kernel
theorem dX9_sum_17 : decode cX9_sum 17 = .ok (.iload_n 1, 1) := by decide +kernel
theorem dX9_sum_18 : decode cX9_sum 18 = .ok (.iload_n 2, 1) := by decide +kernel
theorem dX9_sum_19 : decode cX9_sum 19 = .ok (.iload_n 3, 1) := by decide +kernel
theorem dX9_sum_20 : decode cX9_sum 20 = .ok (.invokevirtual 132, 3) := by decide +kernel
theorem dX9_sum_23 : decode cX9_sum 23 = .ok (.goto 4, 3) := by decide +kernel
theorem dX9_sum_26 : decode cX9_sum 26 = .ok (.iconst (-1), 1) := by decide +kernel
theorem dX9_sum_27 : decode cX9_sum 27 = .ok (.ireturn, 1) := by decide +kernel
set_option maxRecDepth 20000 in
theorem ggX9_seen_X9_isSlot : GoodIn wsX9_seen wsX9_isSlot := goodIn_r _ [6, 1, 7, 8, 5, 9] (by decide +kernel) (by decide +kernel)
set_option maxRecDepth 20000 in
theorem gX9_seen_X9_isSlot : GoodIn wsX9_seen (va_wsS RX9 103 yX9_isSlot wsX9_isSlot) := goodIn_app (goodIn_of _ (by decide +kernel)) ggX9_seen_X9_isSlot
set_option maxRecDepth 20000 in
theorem ggX9_seen_X9_in : GoodIn wsX9_seen wsX9_in := goodIn_r _ [9] (by decide +kernel) (by decide +kernel)
set_option maxRecDepth 20000 in
theorem gX9_seen_X9_in : GoodIn wsX9_seen (va_wsS RX9 93 yX9_in wsX9_in) := goodIn_app (goodIn_of _ (by decide +kernel)) ggX9_seen_X9_in
set_option maxRecDepth 20000 in
theorem ggX9_seen_X9_isLine : GoodIn wsX9_seen wsX9_isLine := goodIn_r _ [13, 14, 15, 7, 8, 5, 9, 24, 25, 26, 27, 28, 29, 30, 31, 32, 33, 34, 35, 36, 37, 38, 39, 40, 41, 42, 43, 44, 45, 46, 47, 48, 49] (by decide +kernel) (by decide +kernel)
set_option maxRecDepth 20000 in
theorem gX9_seen_X9_isLine : GoodIn wsX9_seen (wsV RX9 124 RX9 yX9_isLine wsX9_isLine) := goodIn_app (goodIn_of _ (by decide +kernel)) ggX9_seen_X9_isLine
set_option maxRecDepth 20000 in
theorem ggX9_seen_X9_lengthOf : GoodIn wsX9_seen wsX9_lengthOf := goodIn_r _ [19, 15, 14, 24, 25, 26, 27, 28, 29, 30, 31, 32, 33, 34, 35, 36, 37, 38, 39, 40, 41, 42, 43, 44, 45, 46, 47, 48, 49] (by decide +kernel) (by decide +kernel)
set_option maxRecDepth 20000 in
theorem gX9_seen_X9_lengthOf : GoodIn wsX9_seen (wsV RX9 116 RX9 yX9_lengthOf wsX9_lengthOf) := goodIn_app (goodIn_of _ (by decide +kernel)) ggX9_seen_X9_lengthOf
set_option maxRecDepth 20000 in
theorem ggX9_seen_X9_cellOf : GoodIn wsX9_seen wsX9_cellOf := goodIn_r _ [23, 14, 24, 25, 26, 27, 28, 29, 30, 31, 32, 33, 34, 35, 36, 37, 38, 39, 40, 41, 42, 43, 44, 45, 46, 47, 48, 49] (by decide +kernel) (by decide +kernel)
set_option maxRecDepth 20000 in
theorem gX9_seen_X9_cellOf : GoodIn wsX9_seen (wsV RX9 120 RX9 yX9_cellOf wsX9_cellOf) := goodIn_app (goodIn_of _ (by decide +kernel)) ggX9_seen_X9_cellOf
theorem dX9_seen_0 : decode cX9_seen 0 = .ok (.iload_n 1, 1) := by decide +kernel
theorem dX9_seen_1 : decode cX9_seen 1 = .ok (.invokestatic 103, 3) := by decide +kernel
theorem dX9_seen_4 : decode cX9_seen 4 = .ok (.ifCond .ne 5, 3) := by decide +kernel
theorem dX9_seen_7 : decode cX9_seen 7 = .ok (.iconst (-1), 1) := by decide +kernel
theorem dX9_seen_8 : decode cX9_seen 8 = .ok (.ireturn, 1) := by decide +kernel
theorem dX9_seen_9 : decode cX9_seen 9 = .ok (.iload_n 2, 1) := by decide +kernel
theorem dX9_seen_10 : decode cX9_seen 10 = .ok (.i2l, 1) := by decide +kernel
theorem dX9_seen_11 : decode cX9_seen 11 = .ok (.lconst 0, 1) := by decide +kernel
theorem dX9_seen_12 : decode cX9_seen 12 = .ok (.ldc2_w 91, 3) := by decide +kernel
theorem dX9_seen_15 : decode cX9_seen 15 = .ok (.invokestatic 93, 3) := by decide +kernel
theorem dX9_seen_18 : decode cX9_seen 18 = .ok (.ifCond .ne 6, 3) := by decide +kernel
theorem dX9_seen_21 : decode cX9_seen 21 = .ok (.bipush (-2), 2) := by decide +kernel
theorem dX9_seen_23 : decode cX9_seen 23 = .ok (.ireturn, 1) := by decide +kernel
theorem dX9_seen_24 : decode cX9_seen 24 = .ok (.iload_n 2, 1) := by decide +kernel
theorem dX9_seen_25 : decode cX9_seen 25 = .ok (.iconst 2, 1) := by decide +kernel
theorem dX9_seen_26 : decode cX9_seen 26 = .ok (.irem, 1) := by decide +kernel
theorem dX9_seen_27 : decode cX9_seen 27 = .ok (.iconst 1, 1) := by decide +kernel
theorem dX9_seen_28 : decode cX9_seen 28 = .ok (.if_icmp .ne 7, 3) := by decide +kernel
theorem dX9_seen_31 : decode cX9_seen 31 = .ok (.iconst 1, 1) := by decide +kernel
theorem dX9_seen_32 : decode cX9_seen 32 = .ok (.goto 4, 3) := by decide +kernel
theorem dX9_seen_35 : decode cX9_seen 35 = .ok (.iconst 0, 1) := by decide +kernel
theorem dX9_seen_36 : decode cX9_seen 36 = .ok (.istore 4, 2) := by decide +kernel
theorem dX9_seen_38 : decode cX9_seen 38 = .ok (.aload_n 0, 1) := by decide +kernel
theorem dX9_seen_39 : decode cX9_seen 39 = .ok (.iload 4, 2) := by decide +kernel
theorem dX9_seen_41 : decode cX9_seen 41 = .ok (.iload_n 3, 1) := by decide +kernel
theorem dX9_seen_42 : decode cX9_seen 42 = .ok (.invokevirtual 124, 3) := by decide +kernel
theorem dX9_seen_45 : decode cX9_seen 45 = .ok (.ifCond .ne 5, 3) := by decide +kernel
theorem dX9_seen_48 : decode cX9_seen 48 = .ok (.iconst (-1), 1) := by decide +kernel
theorem dX9_seen_49 : decode cX9_seen 49 = .ok (.ireturn, 1) := by decide +kernel
theorem dX9_seen_50 : decode cX9_seen 50 = .ok (.iconst 0, 1) := by decide +kernel
theorem dX9_seen_51 : decode cX9_seen 51 = .ok (.istore 5, 2) := by decide +kernel
theorem dX9_seen_53 : decode cX9_seen 53 = .ok (.iconst 0, 1) := by decide +kernel
theorem dX9_seen_54 : decode cX9_seen 54 = .ok (.istore 6, 2) := by decide +kernel
theorem dX9_seen_56 : decode cX9_seen 56 = .ok (.aload_n 0, 1) := by decide +kernel
theorem dX9_seen_57 : decode cX9_seen 57 = .ok (.iload 4, 2) := by decide +kernel
theorem dX9_seen_59 : decode cX9_seen 59 = .ok (.invokevirtual 116, 3) := by decide +kernel
theorem dX9_seen_62 : decode cX9_seen 62 = .ok (.istore 7, 2) := by decide +kernel
theorem dX9_seen_64 : decode cX9_seen 64 = .ok (.iconst 0, 1) := by decide +kernel
theorem dX9_seen_65 : decode cX9_seen 65 = .ok (.istore 8, 2) := by decide +kernel
theorem dX9_seen_67 : decode cX9_seen 67 = .ok (.iload 8, 2) := by decide +kernel
theorem dX9_seen_69 : decode cX9_seen 69 = .ok (.iload 7, 2) := by decide +kernel
theorem dX9_seen_71 : decode cX9_seen 71 = .ok (.if_icmp .ge 78, 3) := by decide +kernel
theorem dX9_seen_74 : decode cX9_seen 74 = .ok (.aload_n 0, 1) := by decide +kernel
theorem dX9_seen_75 : decode cX9_seen 75 = .ok (.getfield 7, 3) := by decide +kernel
theorem dX9_seen_78 : decode cX9_seen 78 = .ok (.bipush 25, 2) := by decide +kernel
theorem dX9_seen_80 : decode cX9_seen 80 = .ok (.iload_n 1, 1) := by decide +kernel
theorem dX9_seen_81 : decode cX9_seen 81 = .ok (.imul, 1) := by decide +kernel
theorem dX9_seen_82 : decode cX9_seen 82 = .ok (.aload_n 0, 1) := by decide +kernel
theorem dX9_seen_83 : decode cX9_seen 83 = .ok (.iload 4, 2) := by decide +kernel
theorem dX9_seen_85 : decode cX9_seen 85 = .ok (.iload_n 3, 1) := by decide +kernel
theorem dX9_seen_86 : decode cX9_seen 86 = .ok (.iload_n 2, 1) := by decide +kernel
theorem dX9_seen_87 : decode cX9_seen 87 = .ok (.iconst 2, 1) := by decide +kernel
theorem dX9_seen_88 : decode cX9_seen 88 = .ok (.if_icmp .ge 8, 3) := by decide +kernel
theorem dX9_seen_91 : decode cX9_seen 91 = .ok (.iload 8, 2) := by decide +kernel
theorem dX9_seen_93 : decode cX9_seen 93 = .ok (.goto 10, 3) := by decide +kernel
theorem dX9_seen_96 : decode cX9_seen 96 = .ok (.iload 7, 2) := by decide +kernel
theorem dX9_seen_98 : decode cX9_seen 98 = .ok (.iconst 1, 1) := by decide +kernel
theorem dX9_seen_99 : decode cX9_seen 99 = .ok (.isub, 1) := by decide +kernel
theorem dX9_seen_100 : decode cX9_seen 100 = .ok (.iload 8, 2) := by decide +kernel
theorem dX9_seen_102 : decode cX9_seen 102 = .ok (.isub, 1) := by decide +kernel
theorem dX9_seen_103 : decode cX9_seen 103 = .ok (.invokevirtual 120, 3) := by decide +kernel
theorem dX9_seen_106 : decode cX9_seen 106 = .ok (.iadd, 1) := by decide +kernel
theorem dX9_seen_107 : decode cX9_seen 107 = .ok (.iaload, 1) := by decide +kernel
theorem dX9_seen_108 : decode cX9_seen 108 = .ok (.istore 9, 2) := by decide +kernel
theorem dX9_seen_110 : decode cX9_seen 110 = .ok (.iload 5, 2) := by decide +kernel
theorem dX9_seen_112 : decode cX9_seen 112 = .ok (.iload 9, 2) := by decide +kernel
theorem dX9_seen_114 : decode cX9_seen 114 = .ok (.iload 6, 2) := by decide +kernel
theorem dX9_seen_116 : decode cX9_seen 116 = .ok (.if_icmp .le 7, 3) := by decide +kernel
theorem dX9_seen_119 : decode cX9_seen 119 = .ok (.iconst 1, 1) := by decide +kernel
theorem dX9_seen_120 : decode cX9_seen 120 = .ok (.goto 4, 3) := by decide +kernel
theorem dX9_seen_123 : decode cX9_seen 123 = .ok (.iconst 0, 1) := by decide +kernel
theorem dX9_seen_124 : decode cX9_seen 124 = .ok (.iadd, 1) := by decide +kernel
theorem dX9_seen_125 : decode cX9_seen 125 = .ok (.istore 5, 2) := by decide +kernel
theorem dX9_seen_127 : decode cX9_seen 127 = .ok (.iload 9, 2) := by decide +kernel
theorem dX9_seen_129 : decode cX9_seen 129 = .ok (.iload 6, 2) := by decide +kernel
theorem dX9_seen_131 : decode cX9_seen 131 = .ok (.if_icmp .le 8, 3) := by decide +kernel
theorem dX9_seen_134 : decode cX9_seen 134 = .ok (.iload 9, 2) := by decide +kernel
theorem dX9_seen_136 : decode cX9_seen 136 = .ok (.goto 5, 3) := by decide +kernel
theorem dX9_seen_139 : decode cX9_seen 139 = .ok (.iload 6, 2) := by decide +kernel
theorem dX9_seen_141 : decode cX9_seen 141 = .ok (.istore 6, 2) := by decide +kernel
theorem dX9_seen_143 : decode cX9_seen 143 = .ok (.iinc 8 1, 3) := by decide +kernel
theorem dX9_seen_146 : decode cX9_seen 146 = .ok (.goto (-79), 3) := by decide +kernel
theorem dX9_seen_149 : decode cX9_seen 149 = .ok (.iload 5, 2) := by decide +kernel
theorem dX9_seen_151 : decode cX9_seen 151 = .ok (.ireturn, 1) := by decide +kernel
set_option maxRecDepth 20000 in
theorem ggX9_beside_X9_in : GoodIn wsX9_beside wsX9_in := goodIn_r _ [6] (by decide +kernel) (by decide +kernel)
set_option maxRecDepth 20000 in
theorem gX9_beside_X9_in : GoodIn wsX9_beside (va_wsS RX9 93 yX9_in wsX9_in) := goodIn_app (goodIn_of _ (by decide +kernel)) ggX9_beside_X9_in
theorem dX9_beside_0 : decode cX9_beside 0 = .ok (.iload_n 1, 1) := by decide +kernel
theorem dX9_beside_1 : decode cX9_beside 1 = .ok (.aload_n 0, 1) := by decide +kernel
theorem dX9_beside_2 : decode cX9_beside 2 = .ok (.getfield 85, 3) := by decide +kernel
theorem dX9_beside_5 : decode cX9_beside 5 = .ok (.irem, 1) := by decide +kernel
theorem dX9_beside_6 : decode cX9_beside 6 = .ok (.iload_n 2, 1) := by decide +kernel
theorem dX9_beside_7 : decode cX9_beside 7 = .ok (.ifCond .ne 7, 3) := by decide +kernel
theorem dX9_beside_10 : decode cX9_beside 10 = .ok (.iconst 1, 1) := by decide +kernel
theorem dX9_beside_11 : decode cX9_beside 11 = .ok (.goto 13, 3) := by decide +kernel
theorem dX9_beside_14 : decode cX9_beside 14 = .ok (.iload_n 2, 1) := by decide +kernel
theorem dX9_beside_15 : decode cX9_beside 15 = .ok (.iconst 2, 1) := by decide +kernel
theorem dX9_beside_16 : decode cX9_beside 16 = .ok (.if_icmp .ne 7, 3) := by decide +kernel
theorem dX9_beside_19 : decode cX9_beside 19 = .ok (.iconst (-1), 1) := by decide +kernel
theorem dX9_beside_20 : decode cX9_beside 20 = .ok (.goto 4, 3) := by decide +kernel
theorem dX9_beside_23 : decode cX9_beside 23 = .ok (.iconst 0, 1) := by decide +kernel
theorem dX9_beside_24 : decode cX9_beside 24 = .ok (.iadd, 1) := by decide +kernel
theorem dX9_beside_25 : decode cX9_beside 25 = .ok (.istore_n 3, 1) := by decide +kernel
theorem dX9_beside_26 : decode cX9_beside 26 = .ok (.iload_n 1, 1) := by decide +kernel
theorem dX9_beside_27 : decode cX9_beside 27 = .ok (.aload_n 0, 1) := by decide +kernel
theorem dX9_beside_28 : decode cX9_beside 28 = .ok (.getfield 85, 3) := by decide +kernel
theorem dX9_beside_31 : decode cX9_beside 31 = .ok (.idiv, 1) := by decide +kernel
theorem dX9_beside_32 : decode cX9_beside 32 = .ok (.iload_n 2, 1) := by decide +kernel
theorem dX9_beside_33 : decode cX9_beside 33 = .ok (.iconst 1, 1) := by decide +kernel
theorem dX9_beside_34 : decode cX9_beside 34 = .ok (.if_icmp .ne 7, 3) := by decide +kernel
theorem dX9_beside_37 : decode cX9_beside 37 = .ok (.iconst 1, 1) := by decide +kernel
theorem dX9_beside_38 : decode cX9_beside 38 = .ok (.goto 13, 3) := by decide +kernel
theorem dX9_beside_41 : decode cX9_beside 41 = .ok (.iload_n 2, 1) := by decide +kernel
theorem dX9_beside_42 : decode cX9_beside 42 = .ok (.iconst 3, 1) := by decide +kernel
theorem dX9_beside_43 : decode cX9_beside 43 = .ok (.if_icmp .ne 7, 3) := by decide +kernel
theorem dX9_beside_46 : decode cX9_beside 46 = .ok (.iconst (-1), 1) := by decide +kernel
theorem dX9_beside_47 : decode cX9_beside 47 = .ok (.goto 4, 3) := by decide +kernel
theorem dX9_beside_50 : decode cX9_beside 50 = .ok (.iconst 0, 1) := by decide +kernel
theorem dX9_beside_51 : decode cX9_beside 51 = .ok (.iadd, 1) := by decide +kernel
theorem dX9_beside_52 : decode cX9_beside 52 = .ok (.istore 4, 2) := by decide +kernel
theorem dX9_beside_54 : decode cX9_beside 54 = .ok (.iload_n 3, 1) := by decide +kernel
theorem dX9_beside_55 : decode cX9_beside 55 = .ok (.i2l, 1) := by decide +kernel
theorem dX9_beside_56 : decode cX9_beside 56 = .ok (.lconst 0, 1) := by decide +kernel
theorem dX9_beside_57 : decode cX9_beside 57 = .ok (.aload_n 0, 1) := by decide +kernel
theorem dX9_beside_58 : decode cX9_beside 58 = .ok (.getfield 85, 3) := by decide +kernel
theorem dX9_beside_61 : decode cX9_beside 61 = .ok (.iconst 1, 1) := by decide +kernel
theorem dX9_beside_62 : decode cX9_beside 62 = .ok (.isub, 1) := by decide +kernel
theorem dX9_beside_63 : decode cX9_beside 63 = .ok (.i2l, 1) := by decide +kernel
theorem dX9_beside_64 : decode cX9_beside 64 = .ok (.invokestatic 93, 3) := by decide +kernel
theorem dX9_beside_67 : decode cX9_beside 67 = .ok (.ifCond .eq 32, 3) := by decide +kernel
theorem dX9_beside_70 : decode cX9_beside 70 = .ok (.iload 4, 2) := by decide +kernel
theorem dX9_beside_72 : decode cX9_beside 72 = .ok (.i2l, 1) := by decide +kernel
theorem dX9_beside_73 : decode cX9_beside 73 = .ok (.lconst 0, 1) := by decide +kernel
theorem dX9_beside_74 : decode cX9_beside 74 = .ok (.aload_n 0, 1) := by decide +kernel
theorem dX9_beside_75 : decode cX9_beside 75 = .ok (.getfield 88, 3) := by decide +kernel
theorem dX9_beside_78 : decode cX9_beside 78 = .ok (.iconst 1, 1) := by decide +kernel
theorem dX9_beside_79 : decode cX9_beside 79 = .ok (.isub, 1) := by decide +kernel
theorem dX9_beside_80 : decode cX9_beside 80 = .ok (.i2l, 1) := by decide +kernel
theorem dX9_beside_81 : decode cX9_beside 81 = .ok (.invokestatic 93, 3) := by decide +kernel
theorem dX9_beside_84 : decode cX9_beside 84 = .ok (.ifCond .eq 15, 3) := by decide +kernel
theorem dX9_beside_87 : decode cX9_beside 87 = .ok (.iload 4, 2) := by decide +kernel
theorem dX9_beside_89 : decode cX9_beside 89 = .ok (.aload_n 0, 1) := by decide +kernel
theorem dX9_beside_90 : decode cX9_beside 90 = .ok (.getfield 85, 3) := by decide +kernel
theorem dX9_beside_93 : decode cX9_beside 93 = .ok (.imul, 1) := by decide +kernel
theorem dX9_beside_94 : decode cX9_beside 94 = .ok (.iload_n 3, 1) := by decide +kernel
theorem dX9_beside_95 : decode cX9_beside 95 = .ok (.iadd, 1) := by decide +kernel
theorem dX9_beside_96 : decode cX9_beside 96 = .ok (.goto 5, 3) := by decide +kernel
theorem dX9_beside_99 : decode cX9_beside 99 = .ok (.bipush (-9), 2) := by decide +kernel
theorem dX9_beside_101 : decode cX9_beside 101 = .ok (.ireturn, 1) := by decide +kernel
set_option maxRecDepth 20000 in
theorem ggX9_skin_X9_isSlot : GoodIn wsX9_skin wsX9_isSlot := goodIn_r _ [5, 6, 7, 8, 4, 9] (by decide +kernel) (by decide +kernel)
set_option maxRecDepth 20000 in
theorem gX9_skin_X9_isSlot : GoodIn wsX9_skin (va_wsS RX9 103 yX9_isSlot wsX9_isSlot) := goodIn_app (goodIn_of _ (by decide +kernel)) ggX9_skin_X9_isSlot
set_option maxRecDepth 20000 in
theorem ggX9_skin_X9_cells : GoodIn wsX9_skin wsX9_cells := goodIn_r _ [13, 14, 15, 20, 21, 22, 23, 24, 25, 26, 27, 28, 29, 30, 31, 32, 33, 34, 35, 36, 37, 38, 39, 40, 41, 42, 43, 44, 45] (by decide +kernel) (by decide +kernel)
set_option maxRecDepth 20000 in
theorem gX9_skin_X9_cells : GoodIn wsX9_skin (wsV RX9 97 RX9 yX9_cells wsX9_cells) := goodIn_app (goodIn_of _ (by decide +kernel)) ggX9_skin_X9_cells
set_option maxRecDepth 20000 in
theorem ggX9_skin_X9_beside : GoodIn wsX9_skin wsX9_beside := goodIn_r _ [19, 14, 15, 7, 8, 4, 9, 20, 21, 22, 23, 24, 25, 26, 27, 28, 29, 30, 31, 32, 33, 34, 35, 36, 37, 38, 39, 40, 41, 42, 43, 44, 45] (by decide +kernel) (by decide +kernel)
set_option maxRecDepth 20000 in
theorem gX9_skin_X9_beside : GoodIn wsX9_skin (wsV RX9 135 RX9 yX9_beside wsX9_beside) := goodIn_app (goodIn_of _ (by decide +kernel)) ggX9_skin_X9_beside
theorem dX9_skin_0 : decode cX9_skin 0 = .ok (.iload_n 1, 1) := by decide +kernel
theorem dX9_skin_1 : decode cX9_skin 1 = .ok (.invokestatic 103, 3) := by decide +kernel
theorem dX9_skin_4 : decode cX9_skin 4 = .ok (.ifCond .ne 5, 3) := by decide +kernel
theorem dX9_skin_7 : decode cX9_skin 7 = .ok (.iconst (-1), 1) := by decide +kernel
theorem dX9_skin_8 : decode cX9_skin 8 = .ok (.ireturn, 1) := by decide +kernel
theorem dX9_skin_9 : decode cX9_skin 9 = .ok (.iconst 0, 1) := by decide +kernel
theorem dX9_skin_10 : decode cX9_skin 10 = .ok (.istore_n 2, 1) := by decide +kernel
theorem dX9_skin_11 : decode cX9_skin 11 = .ok (.iconst 0, 1) := by decide +kernel
theorem dX9_skin_12 : decode cX9_skin 12 = .ok (.istore_n 3, 1) := by decide +kernel
theorem dX9_skin_13 : decode cX9_skin 13 = .ok (.iload_n 3, 1) := by decide +kernel
theorem dX9_skin_14 : decode cX9_skin 14 = .ok (.aload_n 0, 1) := by decide +kernel
theorem dX9_skin_15 : decode cX9_skin 15 = .ok (.invokevirtual 97, 3) := by decide +kernel
theorem dX9_skin_18 : decode cX9_skin 18 = .ok (.if_icmp .ge 103, 3) := by decide +kernel
theorem dX9_skin_21 : decode cX9_skin 21 = .ok (.aload_n 0, 1) := by decide +kernel
theorem dX9_skin_22 : decode cX9_skin 22 = .ok (.getfield 7, 3) := by decide +kernel
theorem dX9_skin_25 : decode cX9_skin 25 = .ok (.bipush 25, 2) := by decide +kernel
theorem dX9_skin_27 : decode cX9_skin 27 = .ok (.iload_n 1, 1) := by decide +kernel
theorem dX9_skin_28 : decode cX9_skin 28 = .ok (.imul, 1) := by decide +kernel
theorem dX9_skin_29 : decode cX9_skin 29 = .ok (.iload_n 3, 1) := by decide +kernel
theorem dX9_skin_30 : decode cX9_skin 30 = .ok (.iadd, 1) := by decide +kernel
theorem dX9_skin_31 : decode cX9_skin 31 = .ok (.iaload, 1) := by decide +kernel
theorem dX9_skin_32 : decode cX9_skin 32 = .ok (.istore 4, 2) := by decide +kernel
theorem dX9_skin_34 : decode cX9_skin 34 = .ok (.iload_n 2, 1) := by decide +kernel
theorem dX9_skin_35 : decode cX9_skin 35 = .ok (.iload 4, 2) := by decide +kernel
theorem dX9_skin_37 : decode cX9_skin 37 = .ok (.ifCond .le 7, 3) := by decide +kernel
theorem dX9_skin_40 : decode cX9_skin 40 = .ok (.iconst 1, 1) := by decide +kernel
theorem dX9_skin_41 : decode cX9_skin 41 = .ok (.goto 4, 3) := by decide +kernel
theorem dX9_skin_44 : decode cX9_skin 44 = .ok (.iconst 0, 1) := by decide +kernel
theorem dX9_skin_45 : decode cX9_skin 45 = .ok (.iadd, 1) := by decide +kernel
theorem dX9_skin_46 : decode cX9_skin 46 = .ok (.istore_n 2, 1) := by decide +kernel
theorem dX9_skin_47 : decode cX9_skin 47 = .ok (.iconst 0, 1) := by decide +kernel
theorem dX9_skin_48 : decode cX9_skin 48 = .ok (.istore 5, 2) := by decide +kernel
theorem dX9_skin_50 : decode cX9_skin 50 = .ok (.iload 5, 2) := by decide +kernel
theorem dX9_skin_52 : decode cX9_skin 52 = .ok (.iconst 4, 1) := by decide +kernel
theorem dX9_skin_53 : decode cX9_skin 53 = .ok (.if_icmp .ge 62, 3) := by decide +kernel
theorem dX9_skin_56 : decode cX9_skin 56 = .ok (.aload_n 0, 1) := by decide +kernel
theorem dX9_skin_57 : decode cX9_skin 57 = .ok (.iload_n 3, 1) := by decide +kernel
theorem dX9_skin_58 : decode cX9_skin 58 = .ok (.iload 5, 2) := by decide +kernel
theorem dX9_skin_60 : decode cX9_skin 60 = .ok (.invokevirtual 135, 3) := by decide +kernel
theorem dX9_skin_63 : decode cX9_skin 63 = .ok (.istore 6, 2) := by decide +kernel
theorem dX9_skin_65 : decode cX9_skin 65 = .ok (.iload 6, 2) := by decide +kernel
theorem dX9_skin_67 : decode cX9_skin 67 = .ok (.bipush (-9), 2) := by decide +kernel
theorem dX9_skin_69 : decode cX9_skin 69 = .ok (.if_icmp .ne 7, 3) := by decide +kernel
theorem dX9_skin_72 : decode cX9_skin 72 = .ok (.iconst 0, 1) := by decide +kernel
theorem dX9_skin_73 : decode cX9_skin 73 = .ok (.goto 15, 3) := by decide +kernel
theorem dX9_skin_76 : decode cX9_skin 76 = .ok (.aload_n 0, 1) := by decide +kernel
theorem dX9_skin_77 : decode cX9_skin 77 = .ok (.getfield 7, 3) := by decide +kernel
theorem dX9_skin_80 : decode cX9_skin 80 = .ok (.bipush 25, 2) := by decide +kernel
theorem dX9_skin_82 : decode cX9_skin 82 = .ok (.iload_n 1, 1) := by decide +kernel
theorem dX9_skin_83 : decode cX9_skin 83 = .ok (.imul, 1) := by decide +kernel
theorem dX9_skin_84 : decode cX9_skin 84 = .ok (.iload 6, 2) := by decide +kernel
theorem dX9_skin_86 : decode cX9_skin 86 = .ok (.iadd, 1) := by decide +kernel
theorem dX9_skin_87 : decode cX9_skin 87 = .ok (.iaload, 1) := by decide +kernel
theorem dX9_skin_88 : decode cX9_skin 88 = .ok (.istore 7, 2) := by decide +kernel
theorem dX9_skin_90 : decode cX9_skin 90 = .ok (.iload_n 2, 1) := by decide +kernel
theorem dX9_skin_91 : decode cX9_skin 91 = .ok (.iload 4, 2) := by decide +kernel
theorem dX9_skin_93 : decode cX9_skin 93 = .ok (.iload 7, 2) := by decide +kernel
theorem dX9_skin_95 : decode cX9_skin 95 = .ok (.if_icmp .le 11, 3) := by decide +kernel
theorem dX9_skin_98 : decode cX9_skin 98 = .ok (.iload 4, 2) := by decide +kernel
theorem dX9_skin_100 : decode cX9_skin 100 = .ok (.iload 7, 2) := by decide +kernel
theorem dX9_skin_102 : decode cX9_skin 102 = .ok (.isub, 1) := by decide +kernel
theorem dX9_skin_103 : decode cX9_skin 103 = .ok (.goto 4, 3) := by decide +kernel
theorem dX9_skin_106 : decode cX9_skin 106 = .ok (.iconst 0, 1) := by decide +kernel
theorem dX9_skin_107 : decode cX9_skin 107 = .ok (.iadd, 1) := by decide +kernel
theorem dX9_skin_108 : decode cX9_skin 108 = .ok (.istore_n 2, 1) := by decide +kernel
theorem dX9_skin_109 : decode cX9_skin 109 = .ok (.iinc 5 1, 3) := by decide +kernel
theorem dX9_skin_112 : decode cX9_skin 112 = .ok (.goto (-62), 3) := by decide +kernel
theorem dX9_skin_115 : decode cX9_skin 115 = .ok (.iinc 3 1, 3) := by decide +kernel
theorem dX9_skin_118 : decode cX9_skin 118 = .ok (.goto (-105), 3) := by decide +kernel
theorem dX9_skin_121 : decode cX9_skin 121 = .ok (.iload_n 2, 1) := by decide +kernel
theorem dX9_skin_122 : decode cX9_skin 122 = .ok (.ireturn, 1) := by decide +kernel
set_option maxRecDepth 20000 in
theorem ggX9_layParts_X9_cells : GoodIn wsX9_layParts wsX9_cells := goodIn_r _ [7, 8, 9, 17, 18, 19, 20, 21, 22, 23, 24, 25, 26, 27, 28, 29, 30, 31, 32, 33, 34, 35, 36, 37, 38, 39, 40, 41, 42] (by decide +kernel) (by decide +kernel)
set_option maxRecDepth 20000 in
theorem gX9_layParts_X9_cells : GoodIn wsX9_layParts (wsV RX9 97 RX9 yX9_cells wsX9_cells) := goodIn_app (goodIn_of _ (by decide +kernel)) ggX9_layParts_X9_cells
set_option maxRecDepth 20000 in
theorem ggX9_layParts_X9_beside : GoodIn wsX9_layParts wsX9_beside := goodIn_r _ [13, 8, 9, 14, 15, 6, 16, 17, 18, 19, 20, 21, 22, 23, 24, 25, 26, 27, 28, 29, 30, 31, 32, 33, 34, 35, 36, 37, 38, 39, 40, 41, 42] (by decide +kernel) (by decide +kernel)
set_option maxRecDepth 20000 in
theorem gX9_layParts_X9_beside : GoodIn wsX9_layParts (wsV RX9 135 RX9 yX9_beside wsX9_beside) := goodIn_app (goodIn_of _ (by decide +kernel)) ggX9_layParts_X9_beside
theorem dX9_layParts_0 : decode cX9_layParts 0 = .ok (.iconst 0, 1) := by decide +kernel
theorem dX9_layParts_1 : decode cX9_layParts 1 = .ok (.istore_n 3, 1) := by decide +kernel
theorem dX9_layParts_2 : decode cX9_layParts 2 = .ok (.iload_n 3, 1) := by decide +kernel
theorem dX9_layParts_3 : decode cX9_layParts 3 = .ok (.aload_n 0, 1) := by decide +kernel
theorem dX9_layParts_4 : decode cX9_layParts 4 = .ok (.invokevirtual 97, 3) := by decide +kernel
theorem dX9_layParts_7 : decode cX9_layParts 7 = .ok (.if_icmp .ge 36, 3) := by decide +kernel
theorem dX9_layParts_10 : decode cX9_layParts 10 = .ok (.aload_n 0, 1) := by decide +kernel
theorem dX9_layParts_11 : decode cX9_layParts 11 = .ok (.getfield 28, 3) := by decide +kernel
theorem dX9_layParts_14 : decode cX9_layParts 14 = .ok (.iload_n 3, 1) := by decide +kernel
theorem dX9_layParts_15 : decode cX9_layParts 15 = .ok (.aload_n 0, 1) := by decide +kernel
theorem dX9_layParts_16 : decode cX9_layParts 16 = .ok (.getfield 7, 3) := by decide +kernel
theorem dX9_layParts_19 : decode cX9_layParts 19 = .ok (.bipush 25, 2) := by decide +kernel
theorem dX9_layParts_21 : decode cX9_layParts 21 = .ok (.iload_n 1, 1) := by decide +kernel
theorem dX9_layParts_22 : decode cX9_layParts 22 = .ok (.imul, 1) := by decide +kernel
theorem dX9_layParts_23 : decode cX9_layParts 23 = .ok (.iload_n 3, 1) := by decide +kernel
theorem dX9_layParts_24 : decode cX9_layParts 24 = .ok (.iadd, 1) := by decide +kernel
theorem dX9_layParts_25 : decode cX9_layParts 25 = .ok (.iaload, 1) := by decide +kernel
theorem dX9_layParts_26 : decode cX9_layParts 26 = .ok (.iload_n 2, 1) := by decide +kernel
theorem dX9_layParts_27 : decode cX9_layParts 27 = .ok (.if_icmp .lt 7, 3) := by decide +kernel
theorem dX9_layParts_30 : decode cX9_layParts 30 = .ok (.iload_n 3, 1) := by decide +kernel
theorem dX9_layParts_31 : decode cX9_layParts 31 = .ok (.goto 5, 3) := by decide +kernel
theorem dX9_layParts_34 : decode cX9_layParts 34 = .ok (.bipush (-9), 2) := by decide +kernel
theorem dX9_layParts_36 : decode cX9_layParts 36 = .ok (.iastore, 1) := by decide +kernel
theorem dX9_layParts_37 : decode cX9_layParts 37 = .ok (.iinc 3 1, 3) := by decide +kernel
theorem dX9_layParts_40 : decode cX9_layParts 40 = .ok (.goto (-38), 3) := by decide +kernel
theorem dX9_layParts_43 : decode cX9_layParts 43 = .ok (.iconst 1, 1) := by decide +kernel
theorem dX9_layParts_44 : decode cX9_layParts 44 = .ok (.istore_n 3, 1) := by decide +kernel
theorem dX9_layParts_45 : decode cX9_layParts 45 = .ok (.iload_n 3, 1) := by decide +kernel
theorem dX9_layParts_46 : decode cX9_layParts 46 = .ok (.ifCond .eq 112, 3) := by decide +kernel
theorem dX9_layParts_49 : decode cX9_layParts 49 = .ok (.iconst 0, 1) := by decide +kernel
theorem dX9_layParts_50 : decode cX9_layParts 50 = .ok (.istore_n 3, 1) := by decide +kernel
theorem dX9_layParts_51 : decode cX9_layParts 51 = .ok (.iconst 0, 1) := by decide +kernel
theorem dX9_layParts_52 : decode cX9_layParts 52 = .ok (.istore 4, 2) := by decide +kernel
theorem dX9_layParts_54 : decode cX9_layParts 54 = .ok (.iload 4, 2) := by decide +kernel
theorem dX9_layParts_56 : decode cX9_layParts 56 = .ok (.iconst 4, 1) := by decide +kernel
theorem dX9_layParts_57 : decode cX9_layParts 57 = .ok (.aload_n 0, 1) := by decide +kernel
theorem dX9_layParts_58 : decode cX9_layParts 58 = .ok (.invokevirtual 97, 3) := by decide +kernel
theorem dX9_layParts_61 : decode cX9_layParts 61 = .ok (.imul, 1) := by decide +kernel
theorem dX9_layParts_62 : decode cX9_layParts 62 = .ok (.if_icmp .ge 93, 3) := by decide +kernel
theorem dX9_layParts_65 : decode cX9_layParts 65 = .ok (.aload_n 0, 1) := by decide +kernel
theorem dX9_layParts_66 : decode cX9_layParts 66 = .ok (.iload 4, 2) := by decide +kernel
theorem dX9_layParts_68 : decode cX9_layParts 68 = .ok (.iconst 4, 1) := by decide +kernel
theorem dX9_layParts_69 : decode cX9_layParts 69 = .ok (.idiv, 1) := by decide +kernel
theorem dX9_layParts_70 : decode cX9_layParts 70 = .ok (.iload 4, 2) := by decide +kernel
theorem dX9_layParts_72 : decode cX9_layParts 72 = .ok (.iconst 4, 1) := by decide +kernel
theorem dX9_layParts_73 : decode cX9_layParts 73 = .ok (.irem, 1) := by decide +kernel
theorem dX9_layParts_74 : decode cX9_layParts 74 = .ok (.invokevirtual 135, 3) := by decide +kernel
theorem dX9_layParts_77 : decode cX9_layParts 77 = .ok (.istore 5, 2) := by decide +kernel
theorem dX9_layParts_79 : decode cX9_layParts 79 = .ok (.iload 5, 2) := by decide +kernel
theorem dX9_layParts_81 : decode cX9_layParts 81 = .ok (.bipush (-9), 2) := by decide +kernel
theorem dX9_layParts_83 : decode cX9_layParts 83 = .ok (.if_icmp .eq 66, 3) := by decide +kernel
theorem dX9_layParts_86 : decode cX9_layParts 86 = .ok (.aload_n 0, 1) := by decide +kernel
theorem dX9_layParts_87 : decode cX9_layParts 87 = .ok (.getfield 28, 3) := by decide +kernel
theorem dX9_layParts_90 : decode cX9_layParts 90 = .ok (.iload 4, 2) := by decide +kernel
theorem dX9_layParts_92 : decode cX9_layParts 92 = .ok (.iconst 4, 1) := by decide +kernel
theorem dX9_layParts_93 : decode cX9_layParts 93 = .ok (.idiv, 1) := by decide +kernel
theorem dX9_layParts_94 : decode cX9_layParts 94 = .ok (.iaload, 1) := by decide +kernel
theorem dX9_layParts_95 : decode cX9_layParts 95 = .ok (.bipush (-9), 2) := by decide +kernel
theorem dX9_layParts_97 : decode cX9_layParts 97 = .ok (.if_icmp .eq 52, 3) := by decide +kernel
theorem dX9_layParts_100 : decode cX9_layParts 100 = .ok (.aload_n 0, 1) := by decide +kernel
theorem dX9_layParts_101 : decode cX9_layParts 101 = .ok (.getfield 28, 3) := by decide +kernel
theorem dX9_layParts_104 : decode cX9_layParts 104 = .ok (.iload 5, 2) := by decide +kernel
theorem dX9_layParts_106 : decode cX9_layParts 106 = .ok (.iaload, 1) := by decide +kernel
theorem dX9_layParts_107 : decode cX9_layParts 107 = .ok (.bipush (-9), 2) := by decide +kernel
theorem dX9_layParts_109 : decode cX9_layParts 109 = .ok (.if_icmp .eq 40, 3) := by decide +kernel
theorem dX9_layParts_112 : decode cX9_layParts 112 = .ok (.aload_n 0, 1) := by decide +kernel
theorem dX9_layParts_113 : decode cX9_layParts 113 = .ok (.getfield 28, 3) := by decide +kernel
theorem dX9_layParts_116 : decode cX9_layParts 116 = .ok (.iload 5, 2) := by decide +kernel
theorem dX9_layParts_118 : decode cX9_layParts 118 = .ok (.iaload, 1) := by decide +kernel
theorem dX9_layParts_119 : decode cX9_layParts 119 = .ok (.aload_n 0, 1) := by decide +kernel
theorem dX9_layParts_120 : decode cX9_layParts 120 = .ok (.getfield 28, 3) := by decide +kernel
theorem dX9_layParts_123 : decode cX9_layParts 123 = .ok (.iload 4, 2) := by decide +kernel
theorem dX9_layParts_125 : decode cX9_layParts 125 = .ok (.iconst 4, 1) := by decide +kernel
theorem dX9_layParts_126 : decode cX9_layParts 126 = .ok (.idiv, 1) := by decide +kernel
theorem dX9_layParts_127 : decode cX9_layParts 127 = .ok (.iaload, 1) := by decide +kernel
theorem dX9_layParts_128 : decode cX9_layParts 128 = .ok (.if_icmp .ge 21, 3) := by decide +kernel
theorem dX9_layParts_131 : decode cX9_layParts 131 = .ok (.aload_n 0, 1) := by decide +kernel
theorem dX9_layParts_132 : decode cX9_layParts 132 = .ok (.getfield 28, 3) := by decide +kernel
theorem dX9_layParts_135 : decode cX9_layParts 135 = .ok (.iload 4, 2) := by decide +kernel
theorem dX9_layParts_137 : decode cX9_layParts 137 = .ok (.iconst 4, 1) := by decide +kernel
theorem dX9_layParts_138 : decode cX9_layParts 138 = .ok (.idiv, 1) := by decide +kernel
theorem dX9_layParts_139 : decode cX9_layParts 139 = .ok (.aload_n 0, 1) := by decide +kernel
theorem dX9_layParts_140 : decode cX9_layParts 140 = .ok (.getfield 28, 3) := by decide +kernel
theorem dX9_layParts_143 : decode cX9_layParts 143 = .ok (.iload 5, 2) := by decide +kernel
theorem dX9_layParts_145 : decode cX9_layParts 145 = .ok (.iaload, 1) := by decide +kernel
theorem dX9_layParts_146 : decode cX9_layParts 146 = .ok (.iastore, 1) := by decide +kernel
theorem dX9_layParts_147 : decode cX9_layParts 147 = .ok (.iconst 1, 1) := by decide +kernel
theorem dX9_layParts_148 : decode cX9_layParts 148 = .ok (.istore_n 3, 1) := by decide +kernel
theorem dX9_layParts_149 : decode cX9_layParts 149 = .ok (.iinc 4 1, 3) := by decide +kernel
theorem dX9_layParts_152 : decode cX9_layParts 152 = .ok (.goto (-98), 3) := by decide +kernel
theorem dX9_layParts_155 : decode cX9_layParts 155 = .ok (.goto (-110), 3) := by decide +kernel
theorem dX9_layParts_158 : decode cX9_layParts 158 = .ok (.return_, 1) := by decide +kernel
set_option maxRecDepth 20000 in
theorem ggX9_layer_X9_isSlot : GoodIn wsX9_layer wsX9_isSlot := goodIn_r _ [6, 7, 8, 9, 5, 10] (by decide +kernel) (by decide +kernel)
set_option maxRecDepth 20000 in
theorem gX9_layer_X9_isSlot : GoodIn wsX9_layer (va_wsS RX9 103 yX9_isSlot wsX9_isSlot) := goodIn_app (goodIn_of _ (by decide +kernel)) ggX9_layer_X9_isSlot
set_option maxRecDepth 20000 in
theorem ggX9_layer_X9_in : GoodIn wsX9_layer wsX9_in := goodIn_r _ [10] (by decide +kernel) (by decide +kernel)
set_option maxRecDepth 20000 in
theorem gX9_layer_X9_in : GoodIn wsX9_layer (va_wsS RX9 93 yX9_in wsX9_in) := goodIn_app (goodIn_of _ (by decide +kernel)) ggX9_layer_X9_in
set_option maxRecDepth 20000 in
theorem ggX9_layer_X9_layParts : GoodIn wsX9_layer wsX9_layParts := goodIn_r _ [14, 2, 15, 16, 17, 18, 5, 19, 20, 21, 22, 23, 24, 25, 8, 9, 10, 26, 27, 28, 29, 30, 31, 32, 33, 34, 35, 36, 37, 38, 39, 40, 41, 42, 43, 44, 45, 46, 47, 48, 49, 50, 51] (by decide +kernel) (by decide +kernel)
set_option maxRecDepth 20000 in
theorem gX9_layer_X9_layParts : GoodIn wsX9_layer (wsV RX9 139 RX9 yX9_layParts wsX9_layParts) := goodIn_app (goodIn_of _ (by decide +kernel)) ggX9_layer_X9_layParts
set_option maxRecDepth 20000 in
theorem ggX9_layer_X9_cells : GoodIn wsX9_layer wsX9_cells := goodIn_r _ [19, 20, 21, 26, 27, 28, 29, 30, 31, 32, 33, 34, 35, 36, 37, 38, 39, 40, 41, 42, 43, 44, 45, 46, 47, 48, 49, 50, 51] (by decide +kernel) (by decide +kernel)
set_option maxRecDepth 20000 in
theorem gX9_layer_X9_cells : GoodIn wsX9_layer (wsV RX9 97 RX9 yX9_cells wsX9_cells) := goodIn_app (goodIn_of _ (by decide +kernel)) ggX9_layer_X9_cells
theorem dX9_layer_0 : decode cX9_layer 0 = .ok (.iload_n 1, 1) := by decide +kernel
theorem dX9_layer_1 : decode cX9_layer 1 = .ok (.invokestatic 103, 3) := by decide +kernel
theorem dX9_layer_4 : decode cX9_layer 4 = .ok (.ifCond .ne 5, 3) := by decide +kernel
theorem dX9_layer_7 : decode cX9_layer 7 = .ok (.iconst (-1), 1) := by decide +kernel
theorem dX9_layer_8 : decode cX9_layer 8 = .ok (.ireturn, 1) := by decide +kernel
theorem dX9_layer_9 : decode cX9_layer 9 = .ok (.iload_n 2, 1) := by decide +kernel
theorem dX9_layer_10 : decode cX9_layer 10 = .ok (.i2l, 1) := by decide +kernel
theorem dX9_layer_11 : decode cX9_layer 11 = .ok (.lconst 1, 1) := by decide +kernel
theorem dX9_layer_12 : decode cX9_layer 12 = .ok (.ldc2_w 110, 3) := by decide +kernel
theorem dX9_layer_15 : decode cX9_layer 15 = .ok (.invokestatic 93, 3) := by decide +kernel
theorem dX9_layer_18 : decode cX9_layer 18 = .ok (.ifCond .ne 6, 3) := by decide +kernel
theorem dX9_layer_21 : decode cX9_layer 21 = .ok (.bipush (-2), 2) := by decide +kernel
theorem dX9_layer_23 : decode cX9_layer 23 = .ok (.ireturn, 1) := by decide +kernel
theorem dX9_layer_24 : decode cX9_layer 24 = .ok (.aload_n 0, 1) := by decide +kernel
theorem dX9_layer_25 : decode cX9_layer 25 = .ok (.iload_n 1, 1) := by decide +kernel
theorem dX9_layer_26 : decode cX9_layer 26 = .ok (.iload_n 2, 1) := by decide +kernel
theorem dX9_layer_27 : decode cX9_layer 27 = .ok (.invokevirtual 139, 3) := by decide +kernel
theorem dX9_layer_30 : decode cX9_layer 30 = .ok (.iconst 0, 1) := by decide +kernel
theorem dX9_layer_31 : decode cX9_layer 31 = .ok (.istore 4, 2) := by decide +kernel
theorem dX9_layer_33 : decode cX9_layer 33 = .ok (.iconst 0, 1) := by decide +kernel
theorem dX9_layer_34 : decode cX9_layer 34 = .ok (.istore 5, 2) := by decide +kernel
theorem dX9_layer_36 : decode cX9_layer 36 = .ok (.iload 5, 2) := by decide +kernel
theorem dX9_layer_38 : decode cX9_layer 38 = .ok (.aload_n 0, 1) := by decide +kernel
theorem dX9_layer_39 : decode cX9_layer 39 = .ok (.invokevirtual 97, 3) := by decide +kernel
theorem dX9_layer_42 : decode cX9_layer 42 = .ok (.if_icmp .ge 55, 3) := by decide +kernel
theorem dX9_layer_45 : decode cX9_layer 45 = .ok (.iload 4, 2) := by decide +kernel
theorem dX9_layer_47 : decode cX9_layer 47 = .ok (.iload_n 3, 1) := by decide +kernel
theorem dX9_layer_48 : decode cX9_layer 48 = .ok (.ifCond .eq 23, 3) := by decide +kernel
theorem dX9_layer_51 : decode cX9_layer 51 = .ok (.aload_n 0, 1) := by decide +kernel
theorem dX9_layer_52 : decode cX9_layer 52 = .ok (.getfield 28, 3) := by decide +kernel
theorem dX9_layer_55 : decode cX9_layer 55 = .ok (.iload 5, 2) := by decide +kernel
theorem dX9_layer_57 : decode cX9_layer 57 = .ok (.iaload, 1) := by decide +kernel
theorem dX9_layer_58 : decode cX9_layer 58 = .ok (.iload 5, 2) := by decide +kernel
theorem dX9_layer_60 : decode cX9_layer 60 = .ok (.if_icmp .ne 7, 3) := by decide +kernel
theorem dX9_layer_63 : decode cX9_layer 63 = .ok (.iconst 1, 1) := by decide +kernel
theorem dX9_layer_64 : decode cX9_layer 64 = .ok (.goto 24, 3) := by decide +kernel
theorem dX9_layer_67 : decode cX9_layer 67 = .ok (.iconst 0, 1) := by decide +kernel
theorem dX9_layer_68 : decode cX9_layer 68 = .ok (.goto 20, 3) := by decide +kernel
theorem dX9_layer_71 : decode cX9_layer 71 = .ok (.aload_n 0, 1) := by decide +kernel
theorem dX9_layer_72 : decode cX9_layer 72 = .ok (.getfield 28, 3) := by decide +kernel
theorem dX9_layer_75 : decode cX9_layer 75 = .ok (.iload 5, 2) := by decide +kernel
theorem dX9_layer_77 : decode cX9_layer 77 = .ok (.iaload, 1) := by decide +kernel
theorem dX9_layer_78 : decode cX9_layer 78 = .ok (.bipush (-9), 2) := by decide +kernel
theorem dX9_layer_80 : decode cX9_layer 80 = .ok (.if_icmp .eq 7, 3) := by decide +kernel
theorem dX9_layer_83 : decode cX9_layer 83 = .ok (.iconst 1, 1) := by decide +kernel
theorem dX9_layer_84 : decode cX9_layer 84 = .ok (.goto 4, 3) := by decide +kernel
theorem dX9_layer_87 : decode cX9_layer 87 = .ok (.iconst 0, 1) := by decide +kernel
theorem dX9_layer_88 : decode cX9_layer 88 = .ok (.iadd, 1) := by decide +kernel
theorem dX9_layer_89 : decode cX9_layer 89 = .ok (.istore 4, 2) := by decide +kernel
theorem dX9_layer_91 : decode cX9_layer 91 = .ok (.iinc 5 1, 3) := by decide +kernel
theorem dX9_layer_94 : decode cX9_layer 94 = .ok (.goto (-58), 3) := by decide +kernel
theorem dX9_layer_97 : decode cX9_layer 97 = .ok (.iload 4, 2) := by decide +kernel
theorem dX9_layer_99 : decode cX9_layer 99 = .ok (.ireturn, 1) := by decide +kernel
set_option maxRecDepth 20000 in
theorem ggX9_layWater_X9_cells : GoodIn wsX9_layWater wsX9_cells := goodIn_r _ [7, 8, 9, 17, 18, 19, 20, 21, 22, 23, 24, 25, 26, 27, 28, 29, 30, 31, 32, 33, 34, 35, 36, 37, 38, 39, 40, 41, 42] (by decide +kernel) (by decide +kernel)
set_option maxRecDepth 20000 in
theorem gX9_layWater_X9_cells : GoodIn wsX9_layWater (wsV RX9 97 RX9 yX9_cells wsX9_cells) := goodIn_app (goodIn_of _ (by decide +kernel)) ggX9_layWater_X9_cells
set_option maxRecDepth 20000 in
theorem ggX9_layWater_X9_beside : GoodIn wsX9_layWater wsX9_beside := goodIn_r _ [13, 8, 9, 14, 15, 6, 16, 17, 18, 19, 20, 21, 22, 23, 24, 25, 26, 27, 28, 29, 30, 31, 32, 33, 34, 35, 36, 37, 38, 39, 40, 41, 42] (by decide +kernel) (by decide +kernel)
set_option maxRecDepth 20000 in
theorem gX9_layWater_X9_beside : GoodIn wsX9_layWater (wsV RX9 135 RX9 yX9_beside wsX9_beside) := goodIn_app (goodIn_of _ (by decide +kernel)) ggX9_layWater_X9_beside
theorem dX9_layWater_0 : decode cX9_layWater 0 = .ok (.iconst 0, 1) := by decide +kernel
theorem dX9_layWater_1 : decode cX9_layWater 1 = .ok (.istore_n 2, 1) := by decide +kernel
theorem dX9_layWater_2 : decode cX9_layWater 2 = .ok (.iload_n 2, 1) := by decide +kernel
theorem dX9_layWater_3 : decode cX9_layWater 3 = .ok (.aload_n 0, 1) := by decide +kernel
theorem dX9_layWater_4 : decode cX9_layWater 4 = .ok (.invokevirtual 97, 3) := by decide +kernel
theorem dX9_layWater_7 : decode cX9_layWater 7 = .ok (.if_icmp .ge 16, 3) := by decide +kernel
theorem dX9_layWater_10 : decode cX9_layWater 10 = .ok (.aload_n 0, 1) := by decide +kernel
theorem dX9_layWater_11 : decode cX9_layWater 11 = .ok (.getfield 28, 3) := by decide +kernel
theorem dX9_layWater_14 : decode cX9_layWater 14 = .ok (.iload_n 2, 1) := by decide +kernel
theorem dX9_layWater_15 : decode cX9_layWater 15 = .ok (.iconst 4, 1) := by decide +kernel
theorem dX9_layWater_16 : decode cX9_layWater 16 = .ok (.iastore, 1) := by decide +kernel
theorem dX9_layWater_17 : decode cX9_layWater 17 = .ok (.iinc 2 1, 3) := by decide +kernel
theorem dX9_layWater_20 : decode cX9_layWater 20 = .ok (.goto (-18), 3) := by decide +kernel
theorem dX9_layWater_23 : decode cX9_layWater 23 = .ok (.iconst 1, 1) := by decide +kernel
theorem dX9_layWater_24 : decode cX9_layWater 24 = .ok (.istore_n 2, 1) := by decide +kernel
theorem dX9_layWater_25 : decode cX9_layWater 25 = .ok (.iload_n 2, 1) := by decide +kernel
theorem dX9_layWater_26 : decode cX9_layWater 26 = .ok (.ifCond .eq 114, 3) := by decide +kernel
theorem dX9_layWater_29 : decode cX9_layWater 29 = .ok (.iconst 0, 1) := by decide +kernel
theorem dX9_layWater_30 : decode cX9_layWater 30 = .ok (.istore_n 2, 1) := by decide +kernel
theorem dX9_layWater_31 : decode cX9_layWater 31 = .ok (.iconst 0, 1) := by decide +kernel
theorem dX9_layWater_32 : decode cX9_layWater 32 = .ok (.istore_n 3, 1) := by decide +kernel
theorem dX9_layWater_33 : decode cX9_layWater 33 = .ok (.iload_n 3, 1) := by decide +kernel
theorem dX9_layWater_34 : decode cX9_layWater 34 = .ok (.iconst 4, 1) := by decide +kernel
theorem dX9_layWater_35 : decode cX9_layWater 35 = .ok (.aload_n 0, 1) := by decide +kernel
theorem dX9_layWater_36 : decode cX9_layWater 36 = .ok (.invokevirtual 97, 3) := by decide +kernel
theorem dX9_layWater_39 : decode cX9_layWater 39 = .ok (.imul, 1) := by decide +kernel
theorem dX9_layWater_40 : decode cX9_layWater 40 = .ok (.if_icmp .ge 97, 3) := by decide +kernel
theorem dX9_layWater_43 : decode cX9_layWater 43 = .ok (.aload_n 0, 1) := by decide +kernel
theorem dX9_layWater_44 : decode cX9_layWater 44 = .ok (.getfield 7, 3) := by decide +kernel
theorem dX9_layWater_47 : decode cX9_layWater 47 = .ok (.bipush 25, 2) := by decide +kernel
theorem dX9_layWater_49 : decode cX9_layWater 49 = .ok (.iload_n 1, 1) := by decide +kernel
theorem dX9_layWater_50 : decode cX9_layWater 50 = .ok (.imul, 1) := by decide +kernel
theorem dX9_layWater_51 : decode cX9_layWater 51 = .ok (.iload_n 3, 1) := by decide +kernel
theorem dX9_layWater_52 : decode cX9_layWater 52 = .ok (.iconst 4, 1) := by decide +kernel
theorem dX9_layWater_53 : decode cX9_layWater 53 = .ok (.idiv, 1) := by decide +kernel
