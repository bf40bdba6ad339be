theorem dJ6_numberOfLeadingZeros_0f7a4_0 : decode cJ6_numberOfLeadingZeros_0f7a4 0 = .ok (.iload_n 0, 1) := by decide +kernel
theorem dJ6_numberOfLeadingZeros_0f7a4_1 : decode cJ6_numberOfLeadingZeros_0f7a4 1 = .ok (.ifCond .gt 14, 3) := by decide +kernel
theorem dJ6_numberOfLeadingZeros_0f7a4_4 : decode cJ6_numberOfLeadingZeros_0f7a4 4 = .ok (.iload_n 0, 1) := by decide +kernel
theorem dJ6_numberOfLeadingZeros_0f7a4_5 : decode cJ6_numberOfLeadingZeros_0f7a4 5 = .ok (.ifCond .ne 8, 3) := by decide +kernel
theorem dJ6_numberOfLeadingZeros_0f7a4_8 : decode cJ6_numberOfLeadingZeros_0f7a4 8 = .ok (.bipush 32, 2) := by decide +kernel
theorem dJ6_numberOfLeadingZeros_0f7a4_10 : decode cJ6_numberOfLeadingZeros_0f7a4 10 = .ok (.goto 4, 3) := by decide +kernel
theorem dJ6_numberOfLeadingZeros_0f7a4_13 : decode cJ6_numberOfLeadingZeros_0f7a4 13 = .ok (.iconst 0, 1) := by decide +kernel
theorem dJ6_numberOfLeadingZeros_0f7a4_14 : decode cJ6_numberOfLeadingZeros_0f7a4 14 = .ok (.ireturn, 1) := by decide +kernel
theorem dJ6_numberOfLeadingZeros_0f7a4_15 : decode cJ6_numberOfLeadingZeros_0f7a4 15 = .ok (.bipush 31, 2) := by decide +kernel
theorem dJ6_numberOfLeadingZeros_0f7a4_17 : decode cJ6_numberOfLeadingZeros_0f7a4 17 = .ok (.istore_n 1, 1) := by decide +kernel
theorem dJ6_numberOfLeadingZeros_0f7a4_18 : decode cJ6_numberOfLeadingZeros_0f7a4 18 = .ok (.iload_n 0, 1) := by decide +kernel
theorem dJ6_numberOfLeadingZeros_0f7a4_19 : decode cJ6_numberOfLeadingZeros_0f7a4 19 = .ok (.ldc_w 264, 3) := by decide +kernel
theorem dJ6_numberOfLeadingZeros_0f7a4_22 : decode cJ6_numberOfLeadingZeros_0f7a4 22 = .ok (.if_icmp .lt 11, 3) := by decide +kernel
theorem dJ6_numberOfLeadingZeros_0f7a4_25 : decode cJ6_numberOfLeadingZeros_0f7a4 25 = .ok (.iinc 1 (-16), 3) := by decide +kernel
theorem dJ6_numberOfLeadingZeros_0f7a4_28 : decode cJ6_numberOfLeadingZeros_0f7a4 28 = .ok (.iload_n 0, 1) := by decide +kernel
theorem dJ6_numberOfLeadingZeros_0f7a4_29 : decode cJ6_numberOfLeadingZeros_0f7a4 29 = .ok (.bipush 16, 2) := by decide +kernel
theorem dJ6_numberOfLeadingZeros_0f7a4_31 : decode cJ6_numberOfLeadingZeros_0f7a4 31 = .ok (.iushr, 1) := by decide +kernel
theorem dJ6_numberOfLeadingZeros_0f7a4_32 : decode cJ6_numberOfLeadingZeros_0f7a4 32 = .ok (.istore_n 0, 1) := by decide +kernel
theorem dJ6_numberOfLeadingZeros_0f7a4_33 : decode cJ6_numberOfLeadingZeros_0f7a4 33 = .ok (.iload_n 0, 1) := by decide +kernel
theorem dJ6_numberOfLeadingZeros_0f7a4_34 : decode cJ6_numberOfLeadingZeros_0f7a4 34 = .ok (.sipush 256, 3) := by decide +kernel
theorem dJ6_numberOfLeadingZeros_0f7a4_37 : decode cJ6_numberOfLeadingZeros_0f7a4 37 = .ok (.if_icmp .lt 11, 3) := by decide +kernel
theorem dJ6_numberOfLeadingZeros_0f7a4_40 : decode cJ6_numberOfLeadingZeros_0f7a4 40 = .ok (.iinc 1 (-8), 3) := by decide +kernel
theorem dJ6_numberOfLeadingZeros_0f7a4_43 : decode cJ6_numberOfLeadingZeros_0f7a4 43 = .ok (.iload_n 0, 1) := by decide +kernel
theorem dJ6_numberOfLeadingZeros_0f7a4_44 : decode cJ6_numberOfLeadingZeros_0f7a4 44 = .ok (.bipush 8, 2) := by decide +kernel
theorem dJ6_numberOfLeadingZeros_0f7a4_46 : decode cJ6_numberOfLeadingZeros_0f7a4 46 = .ok (.iushr, 1) := by decide +kernel
theorem dJ6_numberOfLeadingZeros_0f7a4_47 : decode cJ6_numberOfLeadingZeros_0f7a4 47 = .ok (.istore_n 0, 1) := by decide +kernel
theorem dJ6_numberOfLeadingZeros_0f7a4_48 : decode cJ6_numberOfLeadingZeros_0f7a4 48 = .ok (.iload_n 0, 1) := by decide +kernel
theorem dJ6_numberOfLeadingZeros_0f7a4_49 : decode cJ6_numberOfLeadingZeros_0f7a4 49 = .ok (.bipush 16, 2) := by decide +kernel
theorem dJ6_numberOfLeadingZeros_0f7a4_51 : decode cJ6_numberOfLeadingZeros_0f7a4 51 = .ok (.if_icmp .lt 10, 3) := by decide +kernel
theorem dJ6_numberOfLeadingZeros_0f7a4_54 : decode cJ6_numberOfLeadingZeros_0f7a4 54 = .ok (.iinc 1 (-4), 3) := by decide +kernel
theorem dJ6_numberOfLeadingZeros_0f7a4_57 : decode cJ6_numberOfLeadingZeros_0f7a4 57 = .ok (.iload_n 0, 1) := by decide +kernel
theorem dJ6_numberOfLeadingZeros_0f7a4_58 : decode cJ6_numberOfLeadingZeros_0f7a4 58 = .ok (.iconst 4, 1) := by decide +kernel
theorem dJ6_numberOfLeadingZeros_0f7a4_59 : decode cJ6_numberOfLeadingZeros_0f7a4 59 = .ok (.iushr, 1) := by decide +kernel
theorem dJ6_numberOfLeadingZeros_0f7a4_60 : decode cJ6_numberOfLeadingZeros_0f7a4 60 = .ok (.istore_n 0, 1) := by decide +kernel
theorem dJ6_numberOfLeadingZeros_0f7a4_61 : decode cJ6_numberOfLeadingZeros_0f7a4 61 = .ok (.iload_n 0, 1) := by decide +kernel
theorem dJ6_numberOfLeadingZeros_0f7a4_62 : decode cJ6_numberOfLeadingZeros_0f7a4 62 = .ok (.iconst 4, 1) := by decide +kernel
theorem dJ6_numberOfLeadingZeros_0f7a4_63 : decode cJ6_numberOfLeadingZeros_0f7a4 63 = .ok (.if_icmp .lt 10, 3) := by decide +kernel
theorem dJ6_numberOfLeadingZeros_0f7a4_66 : decode cJ6_numberOfLeadingZeros_0f7a4 66 = .ok (.iinc 1 (-2), 3) := by decide +kernel
theorem dJ6_numberOfLeadingZeros_0f7a4_69 : decode cJ6_numberOfLeadingZeros_0f7a4 69 = .ok (.iload_n 0, 1) := by decide +kernel
theorem dJ6_numberOfLeadingZeros_0f7a4_70 : decode cJ6_numberOfLeadingZeros_0f7a4 70 = .ok (.iconst 2, 1) := by decide +kernel
theorem dJ6_numberOfLeadingZeros_0f7a4_71 : decode cJ6_numberOfLeadingZeros_0f7a4 71 = .ok (.iushr, 1) := by decide +kernel
theorem dJ6_numberOfLeadingZeros_0f7a4_72 : decode cJ6_numberOfLeadingZeros_0f7a4 72 = .ok (.istore_n 0, 1) := by decide +kernel
theorem dJ6_numberOfLeadingZeros_0f7a4_73 : decode cJ6_numberOfLeadingZeros_0f7a4 73 = .ok (.iload_n 1, 1) := by decide +kernel
theorem dJ6_numberOfLeadingZeros_0f7a4_74 : decode cJ6_numberOfLeadingZeros_0f7a4 74 = .ok (.iload_n 0, 1) := by decide +kernel
theorem dJ6_numberOfLeadingZeros_0f7a4_75 : decode cJ6_numberOfLeadingZeros_0f7a4 75 = .ok (.iconst 1, 1) := by decide +kernel
theorem dJ6_numberOfLeadingZeros_0f7a4_76 : decode cJ6_numberOfLeadingZeros_0f7a4 76 = .ok (.iushr, 1) := by decide +kernel
theorem dJ6_numberOfLeadingZeros_0f7a4_77 : decode cJ6_numberOfLeadingZeros_0f7a4 77 = .ok (.isub, 1) := by decide +kernel
theorem dJ6_numberOfLeadingZeros_0f7a4_78 : decode cJ6_numberOfLeadingZeros_0f7a4 78 = .ok (.ireturn, 1) := by decide +kernel
theorem dJ6_numberOfTrailingZeros_0f7a4_0 : decode cJ6_numberOfTrailingZeros_0f7a4 0 = .ok (.iload_n 0, 1) := by decide +kernel
theorem dJ6_numberOfTrailingZeros_0f7a4_1 : decode cJ6_numberOfTrailingZeros_0f7a4 1 = .ok (.iconst (-1), 1) := by decide +kernel
theorem dJ6_numberOfTrailingZeros_0f7a4_2 : decode cJ6_numberOfTrailingZeros_0f7a4 2 = .ok (.ixor, 1) := by decide +kernel
theorem dJ6_numberOfTrailingZeros_0f7a4_3 : decode cJ6_numberOfTrailingZeros_0f7a4 3 = .ok (.iload_n 0, 1) := by decide +kernel
theorem dJ6_numberOfTrailingZeros_0f7a4_4 : decode cJ6_numberOfTrailingZeros_0f7a4 4 = .ok (.iconst 1, 1) := by decide +kernel
theorem dJ6_numberOfTrailingZeros_0f7a4_5 : decode cJ6_numberOfTrailingZeros_0f7a4 5 = .ok (.isub, 1) := by decide +kernel
theorem dJ6_numberOfTrailingZeros_0f7a4_6 : decode cJ6_numberOfTrailingZeros_0f7a4 6 = .ok (.iand, 1) := by decide +kernel
theorem dJ6_numberOfTrailingZeros_0f7a4_7 : decode cJ6_numberOfTrailingZeros_0f7a4 7 = .ok (.istore_n 0, 1) := by decide +kernel
theorem dJ6_numberOfTrailingZeros_0f7a4_8 : decode cJ6_numberOfTrailingZeros_0f7a4 8 = .ok (.iload_n 0, 1) := by decide +kernel
theorem dJ6_numberOfTrailingZeros_0f7a4_9 : decode cJ6_numberOfTrailingZeros_0f7a4 9 = .ok (.ifCond .gt 8, 3) := by decide +kernel
theorem dJ6_numberOfTrailingZeros_0f7a4_12 : decode cJ6_numberOfTrailingZeros_0f7a4 12 = .ok (.iload_n 0, 1) := by decide +kernel
theorem dJ6_numberOfTrailingZeros_0f7a4_13 : decode cJ6_numberOfTrailingZeros_0f7a4 13 = .ok (.bipush 32, 2) := by decide +kernel
theorem dJ6_numberOfTrailingZeros_0f7a4_15 : decode cJ6_numberOfTrailingZeros_0f7a4 15 = .ok (.iand, 1) := by decide +kernel
theorem dJ6_numberOfTrailingZeros_0f7a4_16 : decode cJ6_numberOfTrailingZeros_0f7a4 16 = .ok (.ireturn, 1) := by decide +kernel
theorem dJ6_numberOfTrailingZeros_0f7a4_17 : decode cJ6_numberOfTrailingZeros_0f7a4 17 = .ok (.iconst 1, 1) := by decide +kernel
theorem dJ6_numberOfTrailingZeros_0f7a4_18 : decode cJ6_numberOfTrailingZeros_0f7a4 18 = .ok (.istore_n 1, 1) := by decide +kernel
theorem dJ6_numberOfTrailingZeros_0f7a4_19 : decode cJ6_numberOfTrailingZeros_0f7a4 19 = .ok (.iload_n 0, 1) := by decide +kernel
theorem dJ6_numberOfTrailingZeros_0f7a4_20 : decode cJ6_numberOfTrailingZeros_0f7a4 20 = .ok (.ldc_w 264, 3) := by decide +kernel
theorem dJ6_numberOfTrailingZeros_0f7a4_23 : decode cJ6_numberOfTrailingZeros_0f7a4 23 = .ok (.if_icmp .le 11, 3) := by decide +kernel
theorem dJ6_numberOfTrailingZeros_0f7a4_26 : decode cJ6_numberOfTrailingZeros_0f7a4 26 = .ok (.iinc 1 16, 3) := by decide +kernel
theorem dJ6_numberOfTrailingZeros_0f7a4_29 : decode cJ6_numberOfTrailingZeros_0f7a4 29 = .ok (.iload_n 0, 1) := by decide +kernel
theorem dJ6_numberOfTrailingZeros_0f7a4_30 : decode cJ6_numberOfTrailingZeros_0f7a4 30 = .ok (.bipush 16, 2) := by decide +kernel
theorem dJ6_numberOfTrailingZeros_0f7a4_32 : decode cJ6_numberOfTrailingZeros_0f7a4 32 = .ok (.iushr, 1) := by decide +kernel
theorem dJ6_numberOfTrailingZeros_0f7a4_33 : decode cJ6_numberOfTrailingZeros_0f7a4 33 = .ok (.istore_n 0, 1) := by decide +kernel
theorem dJ6_numberOfTrailingZeros_0f7a4_34 : decode cJ6_numberOfTrailingZeros_0f7a4 34 = .ok (.iload_n 0, 1) := by decide +kernel
theorem dJ6_numberOfTrailingZeros_0f7a4_35 : decode cJ6_numberOfTrailingZeros_0f7a4 35 = .ok (.sipush 256, 3) := by decide +kernel
theorem dJ6_numberOfTrailingZeros_0f7a4_38 : decode cJ6_numberOfTrailingZeros_0f7a4 38 = .ok (.if_icmp .le 11, 3) := by decide +kernel
theorem dJ6_numberOfTrailingZeros_0f7a4_41 : decode cJ6_numberOfTrailingZeros_0f7a4 41 = .ok (.iinc 1 8, 3) := by decide +kernel
theorem dJ6_numberOfTrailingZeros_0f7a4_44 : decode cJ6_numberOfTrailingZeros_0f7a4 44 = .ok (.iload_n 0, 1) := by decide +kernel
theorem dJ6_numberOfTrailingZeros_0f7a4_45 : decode cJ6_numberOfTrailingZeros_0f7a4 45 = .ok (.bipush 8, 2) := by decide +kernel
theorem dJ6_numberOfTrailingZeros_0f7a4_47 : decode cJ6_numberOfTrailingZeros_0f7a4 47 = .ok (.iushr, 1) := by decide +kernel
theorem dJ6_numberOfTrailingZeros_0f7a4_48 : decode cJ6_numberOfTrailingZeros_0f7a4 48 = .ok (.istore_n 0, 1) := by decide +kernel
theorem dJ6_numberOfTrailingZeros_0f7a4_49 : decode cJ6_numberOfTrailingZeros_0f7a4 49 = .ok (.iload_n 0, 1) := by decide +kernel
theorem dJ6_numberOfTrailingZeros_0f7a4_50 : decode cJ6_numberOfTrailingZeros_0f7a4 50 = .ok (.bipush 16, 2) := by decide +kernel
theorem dJ6_numberOfTrailingZeros_0f7a4_52 : decode cJ6_numberOfTrailingZeros_0f7a4 52 = .ok (.if_icmp .le 10, 3) := by decide +kernel
theorem dJ6_numberOfTrailingZeros_0f7a4_55 : decode cJ6_numberOfTrailingZeros_0f7a4 55 = .ok (.iinc 1 4, 3) := by decide +kernel
theorem dJ6_numberOfTrailingZeros_0f7a4_58 : decode cJ6_numberOfTrailingZeros_0f7a4 58 = .ok (.iload_n 0, 1) := by decide +kernel
theorem dJ6_numberOfTrailingZeros_0f7a4_59 : decode cJ6_numberOfTrailingZeros_0f7a4 59 = .ok (.iconst 4, 1) := by decide +kernel
theorem dJ6_numberOfTrailingZeros_0f7a4_60 : decode cJ6_numberOfTrailingZeros_0f7a4 60 = .ok (.iushr, 1) := by decide +kernel
theorem dJ6_numberOfTrailingZeros_0f7a4_61 : decode cJ6_numberOfTrailingZeros_0f7a4 61 = .ok (.istore_n 0, 1) := by decide +kernel
theorem dJ6_numberOfTrailingZeros_0f7a4_62 : decode cJ6_numberOfTrailingZeros_0f7a4 62 = .ok (.iload_n 0, 1) := by decide +kernel
theorem dJ6_numberOfTrailingZeros_0f7a4_63 : decode cJ6_numberOfTrailingZeros_0f7a4 63 = .ok (.iconst 4, 1) := by decide +kernel
theorem dJ6_numberOfTrailingZeros_0f7a4_64 : decode cJ6_numberOfTrailingZeros_0f7a4 64 = .ok (.if_icmp .le 10, 3) := by decide +kernel
theorem dJ6_numberOfTrailingZeros_0f7a4_67 : decode cJ6_numberOfTrailingZeros_0f7a4 67 = .ok (.iinc 1 2, 3) := by decide +kernel
theorem dJ6_numberOfTrailingZeros_0f7a4_70 : decode cJ6_numberOfTrailingZeros_0f7a4 70 = .ok (.iload_n 0, 1) := by decide +kernel
theorem dJ6_numberOfTrailingZeros_0f7a4_71 : decode cJ6_numberOfTrailingZeros_0f7a4 71 = .ok (.iconst 2, 1) := by decide +kernel
theorem dJ6_numberOfTrailingZeros_0f7a4_72 : decode cJ6_numberOfTrailingZeros_0f7a4 72 = .ok (.iushr, 1) := by decide +kernel
theorem dJ6_numberOfTrailingZeros_0f7a4_73 : decode cJ6_numberOfTrailingZeros_0f7a4 73 = .ok (.istore_n 0, 1) := by decide +kernel
theorem dJ6_numberOfTrailingZeros_0f7a4_74 : decode cJ6_numberOfTrailingZeros_0f7a4 74 = .ok (.iload_n 1, 1) := by decide +kernel
theorem dJ6_numberOfTrailingZeros_0f7a4_75 : decode cJ6_numberOfTrailingZeros_0f7a4 75 = .ok (.iload_n 0, 1) := by decide +kernel
theorem dJ6_numberOfTrailingZeros_0f7a4_76 : decode cJ6_numberOfTrailingZeros_0f7a4 76 = .ok (.iconst 1, 1) := by decide +kernel
theorem dJ6_numberOfTrailingZeros_0f7a4_77 : decode cJ6_numberOfTrailingZeros_0f7a4 77 = .ok (.iushr, 1) := by decide +kernel
theorem dJ6_numberOfTrailingZeros_0f7a4_78 : decode cJ6_numberOfTrailingZeros_0f7a4 78 = .ok (.iadd, 1) := by decide +kernel
theorem dJ6_numberOfTrailingZeros_0f7a4_79 : decode cJ6_numberOfTrailingZeros_0f7a4 79 = .ok (.ireturn, 1) := by decide +kernel
theorem dJ6_bitCount_0f7a4_0 : decode cJ6_bitCount_0f7a4 0 = .ok (.iload_n 0, 1) := by decide +kernel
theorem dJ6_bitCount_0f7a4_1 : decode cJ6_bitCount_0f7a4 1 = .ok (.iload_n 0, 1) := by decide +kernel
theorem dJ6_bitCount_0f7a4_2 : decode cJ6_bitCount_0f7a4 2 = .ok (.iconst 1, 1) := by decide +kernel
theorem dJ6_bitCount_0f7a4_3 : decode cJ6_bitCount_0f7a4 3 = .ok (.iushr, 1) := by decide +kernel
theorem dJ6_bitCount_0f7a4_4 : decode cJ6_bitCount_0f7a4 4 = .ok (.ldc_w 265, 3) := by decide +kernel
theorem dJ6_bitCount_0f7a4_7 : decode cJ6_bitCount_0f7a4 7 = .ok (.iand, 1) := by decide +kernel
theorem dJ6_bitCount_0f7a4_8 : decode cJ6_bitCount_0f7a4 8 = .ok (.isub, 1) := by decide +kernel
theorem dJ6_bitCount_0f7a4_9 : decode cJ6_bitCount_0f7a4 9 = .ok (.istore_n 0, 1) := by decide +kernel
theorem dJ6_bitCount_0f7a4_10 : decode cJ6_bitCount_0f7a4 10 = .ok (.iload_n 0, 1) := by decide +kernel
theorem dJ6_bitCount_0f7a4_11 : decode cJ6_bitCount_0f7a4 11 = .ok (.ldc_w 266, 3) := by decide +kernel
theorem dJ6_bitCount_0f7a4_14 : decode cJ6_bitCount_0f7a4 14 = .ok (.iand, 1) := by decide +kernel
theorem dJ6_bitCount_0f7a4_15 : decode cJ6_bitCount_0f7a4 15 = .ok (.iload_n 0, 1) := by decide +kernel
theorem dJ6_bitCount_0f7a4_16 : decode cJ6_bitCount_0f7a4 16 = .ok (.iconst 2, 1) := by decide +kernel
theorem dJ6_bitCount_0f7a4_17 : decode cJ6_bitCount_0f7a4 17 = .ok (.iushr, 1) := by decide +kernel
theorem dJ6_bitCount_0f7a4_18 : decode cJ6_bitCount_0f7a4 18 = .ok (.ldc_w 266, 3) := by decide +kernel
theorem dJ6_bitCount_0f7a4_21 : decode cJ6_bitCount_0f7a4 21 = .ok (.iand, 1) := by decide +kernel
theorem dJ6_bitCount_0f7a4_22 : decode cJ6_bitCount_0f7a4 22 = .ok (.iadd, 1) := by decide +kernel
theorem dJ6_bitCount_0f7a4_23 : decode cJ6_bitCount_0f7a4 23 = .ok (.istore_n 0, 1) := by decide +kernel
theorem dJ6_bitCount_0f7a4_24 : decode cJ6_bitCount_0f7a4 24 = .ok (.iload_n 0, 1) := by decide +kernel
theorem dJ6_bitCount_0f7a4_25 : decode cJ6_bitCount_0f7a4 25 = .ok (.iload_n 0, 1) := by decide +kernel
theorem dJ6_bitCount_0f7a4_26 : decode cJ6_bitCount_0f7a4 26 = .ok (.iconst 4, 1) := by decide +kernel
theorem dJ6_bitCount_0f7a4_27 : decode cJ6_bitCount_0f7a4 27 = .ok (.iushr, 1) := by decide +kernel
theorem dJ6_bitCount_0f7a4_28 : decode cJ6_bitCount_0f7a4 28 = .ok (.iadd, 1) := by decide +kernel
theorem dJ6_bitCount_0f7a4_29 : decode cJ6_bitCount_0f7a4 29 = .ok (.ldc_w 267, 3) := by decide +kernel
theorem dJ6_bitCount_0f7a4_32 : decode cJ6_bitCount_0f7a4 32 = .ok (.iand, 1) := by decide +kernel
theorem dJ6_bitCount_0f7a4_33 : decode cJ6_bitCount_0f7a4 33 = .ok (.istore_n 0, 1) := by decide +kernel
theorem dJ6_bitCount_0f7a4_34 : decode cJ6_bitCount_0f7a4 34 = .ok (.iload_n 0, 1) := by decide +kernel
theorem dJ6_bitCount_0f7a4_35 : decode cJ6_bitCount_0f7a4 35 = .ok (.iload_n 0, 1) := by decide +kernel
theorem dJ6_bitCount_0f7a4_36 : decode cJ6_bitCount_0f7a4 36 = .ok (.bipush 8, 2) := by decide +kernel
theorem dJ6_bitCount_0f7a4_38 : decode cJ6_bitCount_0f7a4 38 = .ok (.iushr, 1) := by decide +kernel
theorem dJ6_bitCount_0f7a4_39 : decode cJ6_bitCount_0f7a4 39 = .ok (.iadd, 1) := by decide +kernel
theorem dJ6_bitCount_0f7a4_40 : decode cJ6_bitCount_0f7a4 40 = .ok (.istore_n 0, 1) := by decide +kernel
theorem dJ6_bitCount_0f7a4_41 : decode cJ6_bitCount_0f7a4 41 = .ok (.iload_n 0, 1) := by decide +kernel
theorem dJ6_bitCount_0f7a4_42 : decode cJ6_bitCount_0f7a4 42 = .ok (.iload_n 0, 1) := by decide +kernel
theorem dJ6_bitCount_0f7a4_43 : decode cJ6_bitCount_0f7a4 43 = .ok (.bipush 16, 2) := by decide +kernel
theorem dJ6_bitCount_0f7a4_45 : decode cJ6_bitCount_0f7a4 45 = .ok (.iushr, 1) := by decide +kernel
theorem dJ6_bitCount_0f7a4_46 : decode cJ6_bitCount_0f7a4 46 = .ok (.iadd, 1) := by decide +kernel
theorem dJ6_bitCount_0f7a4_47 : decode cJ6_bitCount_0f7a4 47 = .ok (.istore_n 0, 1) := by decide +kernel
theorem dJ6_bitCount_0f7a4_48 : decode cJ6_bitCount_0f7a4 48 = .ok (.iload_n 0, 1) := by decide +kernel
theorem dJ6_bitCount_0f7a4_49 : decode cJ6_bitCount_0f7a4 49 = .ok (.bipush 63, 2) := by decide +kernel
theorem dJ6_bitCount_0f7a4_51 : decode cJ6_bitCount_0f7a4 51 = .ok (.iand, 1) := by decide +kernel
theorem dJ6_bitCount_0f7a4_52 : decode cJ6_bitCount_0f7a4 52 = .ok (.ireturn, 1) := by decide +kernel
theorem dJ9_max_7cf53_0 : decode cJ9_max_7cf53 0 = .ok (.iload_n 0, 1) := by decide +kernel
theorem dJ9_max_7cf53_1 : decode cJ9_max_7cf53 1 = .ok (.iload_n 1, 1) := by decide +kernel
theorem dJ9_max_7cf53_2 : decode cJ9_max_7cf53 2 = .ok (.if_icmp .lt 7, 3) := by decide +kernel
theorem dJ9_max_7cf53_5 : decode cJ9_max_7cf53 5 = .ok (.iload_n 0, 1) := by decide +kernel
theorem dJ9_max_7cf53_6 : decode cJ9_max_7cf53 6 = .ok (.goto 4, 3) := by decide +kernel
theorem dJ9_max_7cf53_9 : decode cJ9_max_7cf53 9 = .ok (.iload_n 1, 1) := by decide +kernel
theorem dJ9_max_7cf53_10 : decode cJ9_max_7cf53 10 = .ok (.ireturn, 1) := by decide +kernel
theorem dJ9_min_7cf53_0 : decode cJ9_min_7cf53 0 = .ok (.iload_n 0, 1) := by decide +kernel
theorem dJ9_min_7cf53_1 : decode cJ9_min_7cf53 1 = .ok (.iload_n 1, 1) := by decide +kernel
theorem dJ9_min_7cf53_2 : decode cJ9_min_7cf53 2 = .ok (.if_icmp .gt 7, 3) := by decide +kernel
theorem dJ9_min_7cf53_5 : decode cJ9_min_7cf53 5 = .ok (.iload_n 0, 1) := by decide +kernel
theorem dJ9_min_7cf53_6 : decode cJ9_min_7cf53 6 = .ok (.goto 4, 3) := by decide +kernel
theorem dJ9_min_7cf53_9 : decode cJ9_min_7cf53 9 = .ok (.iload_n 1, 1) := by decide +kernel
theorem dJ9_min_7cf53_10 : decode cJ9_min_7cf53 10 = .ok (.ireturn, 1) := by decide +kernel
theorem dJ7_fill_d0a16_0 : decode cJ7_fill_d0a16 0 = .ok (.iconst 0, 1) := by decide +kernel
theorem dJ7_fill_d0a16_1 : decode cJ7_fill_d0a16 1 = .ok (.istore_n 3, 1) := by decide +kernel
theorem dJ7_fill_d0a16_2 : decode cJ7_fill_d0a16 2 = .ok (.aload_n 0, 1) := by decide +kernel
theorem dJ7_fill_d0a16_3 : decode cJ7_fill_d0a16 3 = .ok (.arraylength, 1) := by decide +kernel
theorem dJ7_fill_d0a16_4 : decode cJ7_fill_d0a16 4 = .ok (.istore 4, 2) := by decide +kernel
theorem dJ7_fill_d0a16_6 : decode cJ7_fill_d0a16 6 = .ok (.iload_n 3, 1) := by decide +kernel
theorem dJ7_fill_d0a16_7 : decode cJ7_fill_d0a16 7 = .ok (.iload 4, 2) := by decide +kernel
theorem dJ7_fill_d0a16_9 : decode cJ7_fill_d0a16 9 = .ok (.if_icmp .ge 13, 3) := by decide +kernel
theorem dJ7_fill_d0a16_12 : decode cJ7_fill_d0a16 12 = .ok (.aload_n 0, 1) := by decide +kernel
theorem dJ7_fill_d0a16_13 : decode cJ7_fill_d0a16 13 = .ok (.iload_n 3, 1) := by decide +kernel
theorem dJ7_fill_d0a16_14 : decode cJ7_fill_d0a16 14 = .ok (.lload_n 1, 1) := by decide +kernel
theorem dJ7_fill_d0a16_15 : decode cJ7_fill_d0a16 15 = .ok (.lastore, 1) := by decide +kernel
theorem dJ7_fill_d0a16_16 : decode cJ7_fill_d0a16 16 = .ok (.iinc 3 1, 3) := by decide +kernel
theorem dJ7_fill_d0a16_19 : decode cJ7_fill_d0a16 19 = .ok (.goto (-13), 3) := by decide +kernel
theorem dJ7_fill_d0a16_22 : decode cJ7_fill_d0a16 22 = .ok (.return_, 1) := by decide +kernel
theorem dJ7_fill_53178_0 : decode cJ7_fill_53178 0 = .ok (.iconst 0, 1) := by decide +kernel
theorem dJ7_fill_53178_1 : decode cJ7_fill_53178 1 = .ok (.istore_n 2, 1) := by decide +kernel
theorem dJ7_fill_53178_2 : decode cJ7_fill_53178 2 = .ok (.aload_n 0, 1) := by decide +kernel
theorem dJ7_fill_53178_3 : decode cJ7_fill_53178 3 = .ok (.arraylength, 1) := by decide +kernel
theorem dJ7_fill_53178_4 : decode cJ7_fill_53178 4 = .ok (.istore_n 3, 1) := by decide +kernel
theorem dJ7_fill_53178_5 : decode cJ7_fill_53178 5 = .ok (.iload_n 2, 1) := by decide +kernel
theorem dJ7_fill_53178_6 : decode cJ7_fill_53178 6 = .ok (.iload_n 3, 1) := by decide +kernel
theorem dJ7_fill_53178_7 : decode cJ7_fill_53178 7 = .ok (.if_icmp .ge 13, 3) := by decide +kernel
theorem dJ7_fill_53178_10 : decode cJ7_fill_53178 10 = .ok (.aload_n 0, 1) := by decide +kernel
theorem dJ7_fill_53178_11 : decode cJ7_fill_53178 11 = .ok (.iload_n 2, 1) := by decide +kernel
theorem dJ7_fill_53178_12 : decode cJ7_fill_53178 12 = .ok (.iload_n 1, 1) := by decide +kernel
theorem dJ7_fill_53178_13 : decode cJ7_fill_53178 13 = .ok (.iastore, 1) := by decide +kernel
theorem dJ7_fill_53178_14 : decode cJ7_fill_53178 14 = .ok (.iinc 2 1, 3) := by decide +kernel
theorem dJ7_fill_53178_17 : decode cJ7_fill_53178 17 = .ok (.goto (-12), 3) := by decide +kernel
theorem dJ7_fill_53178_20 : decode cJ7_fill_53178 20 = .ok (.return_, 1) := by decide +kernel
set_option maxRecDepth 20000 in
theorem ggX2_init_X2_become : GoodIn wsX2_init wsX2_become := goodIn_r _ [12, 13, 14, 15, 16, 17, 11, 18, 5, 6, 7, 19, 20, 21, 22, 23, 24, 25, 26, 27, 28, 29, 30, 31, 32, 33] (by decide +kernel) (by decide +kernel)
set_option maxRecDepth 20000 in
theorem gX2_init_X2_become : GoodIn wsX2_init (wsV RX2 21 RX2 yX2_become wsX2_become) := goodIn_app (goodIn_of _ (by decide +kernel)) ggX2_init_X2_become
theorem dX2_init_0 : decode cX2_init 0 = .ok (.aload_n 0, 1) := by decide +kernel
theorem dX2_init_1 : decode cX2_init 1 = .ok (.invokespecial 3, 3) := by decide +kernel
theorem dX2_init_4 : decode cX2_init 4 = .ok (.aload_n 0, 1) := by decide +kernel
theorem dX2_init_5 : decode cX2_init 5 = .ok (.bipush 25, 2) := by decide +kernel
theorem dX2_init_7 : decode cX2_init 7 = .ok (.newarray .int, 2) := by decide +kernel
theorem dX2_init_9 : decode cX2_init 9 = .ok (.putfield 9, 3) := by decide +kernel
theorem dX2_init_12 : decode cX2_init 12 = .ok (.aload_n 0, 1) := by decide +kernel
theorem dX2_init_13 : decode cX2_init 13 = .ok (.bipush 25, 2) := by decide +kernel
theorem dX2_init_15 : decode cX2_init 15 = .ok (.newarray .int, 2) := by decide +kernel
theorem dX2_init_17 : decode cX2_init 17 = .ok (.putfield 15, 3) := by decide +kernel
theorem dX2_init_20 : decode cX2_init 20 = .ok (.aload_n 0, 1) := by decide +kernel
theorem dX2_init_21 : decode cX2_init 21 = .ok (.bipush 100, 2) := by decide +kernel
theorem dX2_init_23 : decode cX2_init 23 = .ok (.newarray .int, 2) := by decide +kernel
theorem dX2_init_25 : decode cX2_init 25 = .ok (.putfield 18, 3) := by decide +kernel
theorem dX2_init_28 : decode cX2_init 28 = .ok (.aload_n 0, 1) := by decide +kernel
theorem dX2_init_29 : decode cX2_init 29 = .ok (.iload_n 1, 1) := by decide +kernel
theorem dX2_init_30 : decode cX2_init 30 = .ok (.iload_n 2, 1) := by decide +kernel
theorem dX2_init_31 : decode cX2_init 31 = .ok (.invokevirtual 21, 3) := by decide +kernel
theorem dX2_init_34 : decode cX2_init 34 = .ok (.return_, 1) := by decide +kernel
set_option maxRecDepth 20000 in
theorem ggX2_become_X2_placeCell : GoodIn wsX2_become wsX2_placeCell := goodIn_r _ [7, 8, 9, 10, 11, 12, 13, 14, 15, 6, 16, 1, 17, 18, 19, 20, 2, 21, 22, 23, 24, 25] (by decide +kernel) (by decide +kernel)
set_option maxRecDepth 20000 in
theorem gX2_become_X2_placeCell : GoodIn wsX2_become (wsV RX2 32 RX2 yX2_placeCell wsX2_placeCell) := goodIn_app (goodIn_of _ (by decide +kernel)) ggX2_become_X2_placeCell
theorem dX2_become_0 : decode cX2_become 0 = .ok (.aload_n 0, 1) := by decide +kernel
theorem dX2_become_1 : decode cX2_become 1 = .ok (.iload_n 1, 1) := by decide +kernel
theorem dX2_become_2 : decode cX2_become 2 = .ok (.putfield 25, 3) := by decide +kernel
theorem dX2_become_5 : decode cX2_become 5 = .ok (.aload_n 0, 1) := by decide +kernel
theorem dX2_become_6 : decode cX2_become 6 = .ok (.iload_n 2, 1) := by decide +kernel
theorem dX2_become_7 : decode cX2_become 7 = .ok (.putfield 29, 3) := by decide +kernel
theorem dX2_become_10 : decode cX2_become 10 = .ok (.iconst 0, 1) := by decide +kernel
theorem dX2_become_11 : decode cX2_become 11 = .ok (.istore_n 3, 1) := by decide +kernel
theorem dX2_become_12 : decode cX2_become 12 = .ok (.iload_n 3, 1) := by decide +kernel
theorem dX2_become_13 : decode cX2_become 13 = .ok (.iload_n 2, 1) := by decide +kernel
theorem dX2_become_14 : decode cX2_become 14 = .ok (.if_icmp .ge 31, 3) := by decide +kernel
theorem dX2_become_17 : decode cX2_become 17 = .ok (.iconst 0, 1) := by decide +kernel
theorem dX2_become_18 : decode cX2_become 18 = .ok (.istore 4, 2) := by decide +kernel
theorem dX2_become_20 : decode cX2_become 20 = .ok (.iload 4, 2) := by decide +kernel
theorem dX2_become_22 : decode cX2_become 22 = .ok (.iload_n 1, 1) := by decide +kernel
theorem dX2_become_23 : decode cX2_become 23 = .ok (.if_icmp .ge 16, 3) := by decide +kernel
theorem dX2_become_26 : decode cX2_become 26 = .ok (.aload_n 0, 1) := by decide +kernel
theorem dX2_become_27 : decode cX2_become 27 = .ok (.iload 4, 2) := by decide +kernel
theorem dX2_become_29 : decode cX2_become 29 = .ok (.iload_n 3, 1) := by decide +kernel
theorem dX2_become_30 : decode cX2_become 30 = .ok (.invokevirtual 32, 3) := by decide +kernel
theorem dX2_become_33 : decode cX2_become 33 = .ok (.iinc 4 1, 3) := by decide +kernel
theorem dX2_become_36 : decode cX2_become 36 = .ok (.goto (-16), 3) := by decide +kernel
theorem dX2_become_39 : decode cX2_become 39 = .ok (.iinc 3 1, 3) := by decide +kernel
theorem dX2_become_42 : decode cX2_become 42 = .ok (.goto (-30), 3) := by decide +kernel
theorem dX2_become_45 : decode cX2_become 45 = .ok (.return_, 1) := by decide +kernel
set_option maxRecDepth 20000 in
theorem ggX2_placeCell_X2_at : GoodIn wsX2_placeCell wsX2_at := goodIn_r _ [10, 11, 17, 18, 19, 20, 21] (by decide +kernel) (by decide +kernel)
set_option maxRecDepth 20000 in
theorem gX2_placeCell_X2_at : GoodIn wsX2_placeCell (wsV RX2 35 RX2 yX2_at wsX2_at) := goodIn_app (goodIn_of _ (by decide +kernel)) ggX2_placeCell_X2_at
set_option maxRecDepth 20000 in
theorem ggX2_placeCell_X2_atOrBeyond : GoodIn wsX2_placeCell wsX2_atOrBeyond := goodIn_r _ [15, 11, 16, 6, 7, 8, 9, 10, 17, 18, 19, 20, 21] (by decide +kernel) (by decide +kernel)
set_option maxRecDepth 20000 in
theorem gX2_placeCell_X2_atOrBeyond : GoodIn wsX2_placeCell (wsV RX2 45 RX2 yX2_atOrBeyond wsX2_atOrBeyond) := goodIn_app (goodIn_of _ (by decide +kernel)) ggX2_placeCell_X2_atOrBeyond
theorem dX2_placeCell_0 : decode cX2_placeCell 0 = .ok (.aload_n 0, 1) := by decide +kernel
theorem dX2_placeCell_1 : decode cX2_placeCell 1 = .ok (.iload_n 1, 1) := by decide +kernel
theorem dX2_placeCell_2 : decode cX2_placeCell 2 = .ok (.iload_n 2, 1) := by decide +kernel
theorem dX2_placeCell_3 : decode cX2_placeCell 3 = .ok (.invokevirtual 35, 3) := by decide +kernel
theorem dX2_placeCell_6 : decode cX2_placeCell 6 = .ok (.istore_n 3, 1) := by decide +kernel
theorem dX2_placeCell_7 : decode cX2_placeCell 7 = .ok (.aload_n 0, 1) := by decide +kernel
theorem dX2_placeCell_8 : decode cX2_placeCell 8 = .ok (.getfield 9, 3) := by decide +kernel
theorem dX2_placeCell_11 : decode cX2_placeCell 11 = .ok (.iload_n 3, 1) := by decide +kernel
theorem dX2_placeCell_12 : decode cX2_placeCell 12 = .ok (.iload_n 1, 1) := by decide +kernel
theorem dX2_placeCell_13 : decode cX2_placeCell 13 = .ok (.iastore, 1) := by decide +kernel
theorem dX2_placeCell_14 : decode cX2_placeCell 14 = .ok (.aload_n 0, 1) := by decide +kernel
theorem dX2_placeCell_15 : decode cX2_placeCell 15 = .ok (.getfield 15, 3) := by decide +kernel
theorem dX2_placeCell_18 : decode cX2_placeCell 18 = .ok (.iload_n 3, 1) := by decide +kernel
theorem dX2_placeCell_19 : decode cX2_placeCell 19 = .ok (.iload_n 2, 1) := by decide +kernel
theorem dX2_placeCell_20 : decode cX2_placeCell 20 = .ok (.iastore, 1) := by decide +kernel
theorem dX2_placeCell_21 : decode cX2_placeCell 21 = .ok (.iconst 0, 1) := by decide +kernel
theorem dX2_placeCell_22 : decode cX2_placeCell 22 = .ok (.istore 4, 2) := by decide +kernel
theorem dX2_placeCell_24 : decode cX2_placeCell 24 = .ok (.iload 4, 2) := by decide +kernel
theorem dX2_placeCell_26 : decode cX2_placeCell 26 = .ok (.iconst 4, 1) := by decide +kernel
theorem dX2_placeCell_27 : decode cX2_placeCell 27 = .ok (.if_icmp .ge 40, 3) := by decide +kernel
theorem dX2_placeCell_30 : decode cX2_placeCell 30 = .ok (.aload_n 0, 1) := by decide +kernel
theorem dX2_placeCell_31 : decode cX2_placeCell 31 = .ok (.getfield 18, 3) := by decide +kernel
theorem dX2_placeCell_34 : decode cX2_placeCell 34 = .ok (.iload_n 3, 1) := by decide +kernel
theorem dX2_placeCell_35 : decode cX2_placeCell 35 = .ok (.iconst 4, 1) := by decide +kernel
theorem dX2_placeCell_36 : decode cX2_placeCell 36 = .ok (.imul, 1) := by decide +kernel
theorem dX2_placeCell_37 : decode cX2_placeCell 37 = .ok (.iload 4, 2) := by decide +kernel
theorem dX2_placeCell_39 : decode cX2_placeCell 39 = .ok (.iadd, 1) := by decide +kernel
theorem dX2_placeCell_40 : decode cX2_placeCell 40 = .ok (.aload_n 0, 1) := by decide +kernel
theorem dX2_placeCell_41 : decode cX2_placeCell 41 = .ok (.iload_n 1, 1) := by decide +kernel
theorem dX2_placeCell_42 : decode cX2_placeCell 42 = .ok (.getstatic 39, 3) := by decide +kernel
theorem dX2_placeCell_45 : decode cX2_placeCell 45 = .ok (.iload 4, 2) := by decide +kernel
theorem dX2_placeCell_47 : decode cX2_placeCell 47 = .ok (.iaload, 1) := by decide +kernel
theorem dX2_placeCell_48 : decode cX2_placeCell 48 = .ok (.iadd, 1) := by decide +kernel
theorem dX2_placeCell_49 : decode cX2_placeCell 49 = .ok (.iload_n 2, 1) := by decide +kernel
theorem dX2_placeCell_50 : decode cX2_placeCell 50 = .ok (.getstatic 42, 3) := by decide +kernel
theorem dX2_placeCell_53 : decode cX2_placeCell 53 = .ok (.iload 4, 2) := by decide +kernel
theorem dX2_placeCell_55 : decode cX2_placeCell 55 = .ok (.iaload, 1) := by decide +kernel
theorem dX2_placeCell_56 : decode cX2_placeCell 56 = .ok (.iadd, 1) := by decide +kernel
theorem dX2_placeCell_57 : decode cX2_placeCell 57 = .ok (.invokevirtual 45, 3) := by decide +kernel
theorem dX2_placeCell_60 : decode cX2_placeCell 60 = .ok (.iastore, 1) := by decide +kernel
theorem dX2_placeCell_61 : decode cX2_placeCell 61 = .ok (.iinc 4 1, 3) := by decide +kernel
theorem dX2_placeCell_64 : decode cX2_placeCell 64 = .ok (.goto (-40), 3) := by decide +kernel
theorem dX2_placeCell_67 : decode cX2_placeCell 67 = .ok (.return_, 1) := by decide +kernel
set_option maxRecDepth 20000 in
theorem ggX2_atOrBeyond_X2_at : GoodIn wsX2_atOrBeyond wsX2_at := goodIn_r _ [7, 1, 8, 9, 10, 11, 12] (by decide +kernel) (by decide +kernel)
set_option maxRecDepth 20000 in
theorem gX2_atOrBeyond_X2_at : GoodIn wsX2_atOrBeyond (wsV RX2 35 RX2 yX2_at wsX2_at) := goodIn_app (goodIn_of _ (by decide +kernel)) ggX2_atOrBeyond_X2_at
theorem dX2_atOrBeyond_0 : decode cX2_atOrBeyond 0 = .ok (.iload_n 1, 1) := by decide +kernel
theorem dX2_atOrBeyond_1 : decode cX2_atOrBeyond 1 = .ok (.ifCond .lt 23, 3) := by decide +kernel
theorem dX2_atOrBeyond_4 : decode cX2_atOrBeyond 4 = .ok (.iload_n 1, 1) := by decide +kernel
theorem dX2_atOrBeyond_5 : decode cX2_atOrBeyond 5 = .ok (.aload_n 0, 1) := by decide +kernel
theorem dX2_atOrBeyond_6 : decode cX2_atOrBeyond 6 = .ok (.getfield 25, 3) := by decide +kernel
theorem dX2_atOrBeyond_9 : decode cX2_atOrBeyond 9 = .ok (.if_icmp .ge 15, 3) := by decide +kernel
theorem dX2_atOrBeyond_12 : decode cX2_atOrBeyond 12 = .ok (.iload_n 2, 1) := by decide +kernel
theorem dX2_atOrBeyond_13 : decode cX2_atOrBeyond 13 = .ok (.ifCond .lt 11, 3) := by decide +kernel
theorem dX2_atOrBeyond_16 : decode cX2_atOrBeyond 16 = .ok (.iload_n 2, 1) := by decide +kernel
theorem dX2_atOrBeyond_17 : decode cX2_atOrBeyond 17 = .ok (.aload_n 0, 1) := by decide +kernel
theorem dX2_atOrBeyond_18 : decode cX2_atOrBeyond 18 = .ok (.getfield 29, 3) := by decide +kernel
theorem dX2_atOrBeyond_21 : decode cX2_atOrBeyond 21 = .ok (.if_icmp .lt 7, 3) := by decide +kernel
theorem dX2_atOrBeyond_24 : decode cX2_atOrBeyond 24 = .ok (.iconst (-1), 1) := by decide +kernel
theorem dX2_atOrBeyond_25 : decode cX2_atOrBeyond 25 = .ok (.goto 9, 3) := by decide +kernel
theorem dX2_atOrBeyond_28 : decode cX2_atOrBeyond 28 = .ok (.aload_n 0, 1) := by decide +kernel
theorem dX2_atOrBeyond_29 : decode cX2_atOrBeyond 29 = .ok (.iload_n 1, 1) := by decide +kernel
theorem dX2_atOrBeyond_30 : decode cX2_atOrBeyond 30 = .ok (.iload_n 2, 1) := by decide +kernel
theorem dX2_atOrBeyond_31 : decode cX2_atOrBeyond 31 = .ok (.invokevirtual 35, 3) := by decide +kernel
theorem dX2_atOrBeyond_34 : decode cX2_atOrBeyond 34 = .ok (.ireturn, 1) := by decide +kernel
theorem dX2_at_0 : decode cX2_at 0 = .ok (.iload_n 2, 1) := by decide +kernel
theorem dX2_at_1 : decode cX2_at 1 = .ok (.aload_n 0, 1) := by decide +kernel
theorem dX2_at_2 : decode cX2_at 2 = .ok (.getfield 25, 3) := by decide +kernel
theorem dX2_at_5 : decode cX2_at 5 = .ok (.imul, 1) := by decide +kernel
theorem dX2_at_6 : decode cX2_at 6 = .ok (.iload_n 1, 1) := by decide +kernel
theorem dX2_at_7 : decode cX2_at 7 = .ok (.iadd, 1) := by decide +kernel
theorem dX2_at_8 : decode cX2_at 8 = .ok (.ireturn, 1) := by decide +kernel
theorem dX2_x_0 : decode cX2_x 0 = .ok (.aload_n 0, 1) := by decide +kernel
theorem dX2_x_1 : decode cX2_x 1 = .ok (.getfield 9, 3) := by decide +kernel
theorem dX2_x_4 : decode cX2_x 4 = .ok (.iload_n 1, 1) := by decide +kernel
theorem dX2_x_5 : decode cX2_x 5 = .ok (.iaload, 1) := by decide +kernel
theorem dX2_x_6 : decode cX2_x 6 = .ok (.ireturn, 1) := by decide +kernel
theorem dX2_y_0 : decode cX2_y 0 = .ok (.aload_n 0, 1) := by decide +kernel
theorem dX2_y_1 : decode cX2_y 1 = .ok (.getfield 15, 3) := by decide +kernel
theorem dX2_y_4 : decode cX2_y 4 = .ok (.iload_n 1, 1) := by decide +kernel
theorem dX2_y_5 : decode cX2_y 5 = .ok (.iaload, 1) := by decide +kernel
theorem dX2_y_6 : decode cX2_y 6 = .ok (.ireturn, 1) := by decide +kernel
theorem dX2_cells_0 : decode cX2_cells 0 = .ok (.aload_n 0, 1) := by decide +kernel
theorem dX2_cells_1 : decode cX2_cells 1 = .ok (.getfield 25, 3) := by decide +kernel
theorem dX2_cells_4 : decode cX2_cells 4 = .ok (.aload_n 0, 1) := by decide +kernel
theorem dX2_cells_5 : decode cX2_cells 5 = .ok (.getfield 29, 3) := by decide +kernel
theorem dX2_cells_8 : decode cX2_cells 8 = .ok (.imul, 1) := by decide +kernel
theorem dX2_cells_9 : decode cX2_cells 9 = .ok (.ireturn, 1) := by decide +kernel
theorem dX2_beside_0 : decode cX2_beside 0 = .ok (.aload_n 0, 1) := by decide +kernel
theorem dX2_beside_1 : decode cX2_beside 1 = .ok (.getfield 18, 3) := by decide +kernel
theorem dX2_beside_4 : decode cX2_beside 4 = .ok (.iload_n 1, 1) := by decide +kernel
theorem dX2_beside_5 : decode cX2_beside 5 = .ok (.iconst 4, 1) := by decide +kernel
theorem dX2_beside_6 : decode cX2_beside 6 = .ok (.imul, 1) := by decide +kernel
theorem dX2_beside_7 : decode cX2_beside 7 = .ok (.iload_n 2, 1) := by decide +kernel
theorem dX2_beside_8 : decode cX2_beside 8 = .ok (.iadd, 1) := by decide +kernel
theorem dX2_beside_9 : decode cX2_beside 9 = .ok (.iaload, 1) := by decide +kernel
theorem dX2_beside_10 : decode cX2_beside 10 = .ok (.ireturn, 1) := by decide +kernel
theorem dX2_lines_0 : decode cX2_lines 0 = .ok (.iload_n 1, 1) := by decide +kernel
theorem dX2_lines_1 : decode cX2_lines 1 = .ok (.ifCond .eq 10, 3) := by decide +kernel
theorem dX2_lines_4 : decode cX2_lines 4 = .ok (.aload_n 0, 1) := by decide +kernel
theorem dX2_lines_5 : decode cX2_lines 5 = .ok (.getfield 25, 3) := by decide +kernel
theorem dX2_lines_8 : decode cX2_lines 8 = .ok (.goto 7, 3) := by decide +kernel
theorem dX2_lines_11 : decode cX2_lines 11 = .ok (.aload_n 0, 1) := by decide +kernel
theorem dX2_lines_12 : decode cX2_lines 12 = .ok (.getfield 29, 3) := by decide +kernel
theorem dX2_lines_15 : decode cX2_lines 15 = .ok (.ireturn, 1) := by decide +kernel
theorem dX2_length_0 : decode cX2_length 0 = .ok (.iload_n 1, 1) := by decide +kernel
theorem dX2_length_1 : decode cX2_length 1 = .ok (.ifCond .eq 10, 3) := by decide +kernel
theorem dX2_length_4 : decode cX2_length 4 = .ok (.aload_n 0, 1) := by decide +kernel
theorem dX2_length_5 : decode cX2_length 5 = .ok (.getfield 29, 3) := by decide +kernel
theorem dX2_length_8 : decode cX2_length 8 = .ok (.goto 7, 3) := by decide +kernel
theorem dX2_length_11 : decode cX2_length 11 = .ok (.aload_n 0, 1) := by decide +kernel
theorem dX2_length_12 : decode cX2_length 12 = .ok (.getfield 25, 3) := by decide +kernel
theorem dX2_length_15 : decode cX2_length 15 = .ok (.ireturn, 1) := by decide +kernel
theorem dX2_onLine_0 : decode cX2_onLine 0 = .ok (.iload_n 1, 1) := by decide +kernel
theorem dX2_onLine_1 : decode cX2_onLine 1 = .ok (.ifCond .eq 14, 3) := by decide +kernel
theorem dX2_onLine_4 : decode cX2_onLine 4 = .ok (.iload_n 3, 1) := by decide +kernel
theorem dX2_onLine_5 : decode cX2_onLine 5 = .ok (.aload_n 0, 1) := by decide +kernel
theorem dX2_onLine_6 : decode cX2_onLine 6 = .ok (.getfield 25, 3) := by decide +kernel
theorem dX2_onLine_9 : decode cX2_onLine 9 = .ok (.imul, 1) := by decide +kernel
theorem dX2_onLine_10 : decode cX2_onLine 10 = .ok (.iload_n 2, 1) := by decide +kernel
theorem dX2_onLine_11 : decode cX2_onLine 11 = .ok (.iadd, 1) := by decide +kernel
theorem dX2_onLine_12 : decode cX2_onLine 12 = .ok (.goto 11, 3) := by decide +kernel
theorem dX2_onLine_15 : decode cX2_onLine 15 = .ok (.iload_n 2, 1) := by decide +kernel
theorem dX2_onLine_16 : decode cX2_onLine 16 = .ok (.aload_n 0, 1) := by decide +kernel
theorem dX2_onLine_17 : decode cX2_onLine 17 = .ok (.getfield 25, 3) := by decide +kernel
theorem dX2_onLine_20 : decode cX2_onLine 20 = .ok (.imul, 1) := by decide +kernel
theorem dX2_onLine_21 : decode cX2_onLine 21 = .ok (.iload_n 3, 1) := by decide +kernel
theorem dX2_onLine_22 : decode cX2_onLine 22 = .ok (.iadd, 1) := by decide +kernel
theorem dX2_onLine_23 : decode cX2_onLine 23 = .ok (.ireturn, 1) := by decide +kernel
set_option maxRecDepth 20000 in
theorem ggX2_lineTotal_X2_length : GoodIn wsX2_lineTotal wsX2_length := goodIn_r _ [5, 6, 7, 12, 13, 14, 15, 16] (by decide +kernel) (by decide +kernel)
set_option maxRecDepth 20000 in
theorem gX2_lineTotal_X2_length : GoodIn wsX2_lineTotal (wsV RX2 48 RX2 yX2_length wsX2_length) := goodIn_app (goodIn_of _ (by decide +kernel)) ggX2_lineTotal_X2_length
set_option maxRecDepth 20000 in
theorem ggX2_lineTotal_X2_onLine : GoodIn wsX2_lineTotal wsX2_onLine := goodIn_r _ [11, 7, 12, 13, 14, 15, 16] (by decide +kernel) (by decide +kernel)
set_option maxRecDepth 20000 in
theorem gX2_lineTotal_X2_onLine : GoodIn wsX2_lineTotal (wsV RX2 52 RX2 yX2_onLine wsX2_onLine) := goodIn_app (goodIn_of _ (by decide +kernel)) ggX2_lineTotal_X2_onLine
theorem dX2_lineTotal_0 : decode cX2_lineTotal 0 = .ok (.iconst 0, 1) := by decide +kernel
theorem dX2_lineTotal_1 : decode cX2_lineTotal 1 = .ok (.istore 4, 2) := by decide +kernel
theorem dX2_lineTotal_3 : decode cX2_lineTotal 3 = .ok (.iconst 0, 1) := by decide +kernel
theorem dX2_lineTotal_4 : decode cX2_lineTotal 4 = .ok (.istore 5, 2) := by decide +kernel
theorem dX2_lineTotal_6 : decode cX2_lineTotal 6 = .ok (.iload 5, 2) := by decide +kernel
theorem dX2_lineTotal_8 : decode cX2_lineTotal 8 = .ok (.aload_n 0, 1) := by decide +kernel
theorem dX2_lineTotal_9 : decode cX2_lineTotal 9 = .ok (.iload_n 2, 1) := by decide +kernel
theorem dX2_lineTotal_10 : decode cX2_lineTotal 10 = .ok (.invokevirtual 48, 3) := by decide +kernel
theorem dX2_lineTotal_13 : decode cX2_lineTotal 13 = .ok (.if_icmp .ge 24, 3) := by decide +kernel
theorem dX2_lineTotal_16 : decode cX2_lineTotal 16 = .ok (.iload 4, 2) := by decide +kernel
theorem dX2_lineTotal_18 : decode cX2_lineTotal 18 = .ok (.aload_n 1, 1) := by decide +kernel
theorem dX2_lineTotal_19 : decode cX2_lineTotal 19 = .ok (.aload_n 0, 1) := by decide +kernel
theorem dX2_lineTotal_20 : decode cX2_lineTotal 20 = .ok (.iload_n 2, 1) := by decide +kernel
theorem dX2_lineTotal_21 : decode cX2_lineTotal 21 = .ok (.iload_n 3, 1) := by decide +kernel
theorem dX2_lineTotal_22 : decode cX2_lineTotal 22 = .ok (.iload 5, 2) := by decide +kernel
theorem dX2_lineTotal_24 : decode cX2_lineTotal 24 = .ok (.invokevirtual 52, 3) := by decide +kernel
theorem dX2_lineTotal_27 : decode cX2_lineTotal 27 = .ok (.iaload, 1) := by decide +kernel
theorem dX2_lineTotal_28 : decode cX2_lineTotal 28 = .ok (.iadd, 1) := by decide +kernel
theorem dX2_lineTotal_29 : decode cX2_lineTotal 29 = .ok (.istore 4, 2) := by decide +kernel
theorem dX2_lineTotal_31 : decode cX2_lineTotal 31 = .ok (.iinc 5 1, 3) := by decide +kernel
theorem dX2_lineTotal_34 : decode cX2_lineTotal 34 = .ok (.goto (-28), 3) := by decide +kernel
theorem dX2_lineTotal_37 : decode cX2_lineTotal 37 = .ok (.iload 4, 2) := by decide +kernel
theorem dX2_lineTotal_39 : decode cX2_lineTotal 39 = .ok (.ireturn, 1) := by decide +kernel
set_option maxRecDepth 20000 in
theorem ggX2_total_X2_cells : GoodIn wsX2_total wsX2_cells := goodIn_r _ [5, 6, 7, 8, 9, 10, 11, 12] (by decide +kernel) (by decide +kernel)
set_option maxRecDepth 20000 in
theorem gX2_total_X2_cells : GoodIn wsX2_total (wsV RX2 56 RX2 yX2_cells wsX2_cells) := goodIn_app (goodIn_of _ (by decide +kernel)) ggX2_total_X2_cells
theorem dX2_total_0 : decode cX2_total 0 = .ok (.iconst 0, 1) := by decide +kernel
theorem dX2_total_1 : decode cX2_total 1 = .ok (.istore_n 2, 1) := by decide +kernel
theorem dX2_total_2 : decode cX2_total 2 = .ok (.iconst 0, 1) := by decide +kernel
theorem dX2_total_3 : decode cX2_total 3 = .ok (.istore_n 3, 1) := by decide +kernel
theorem dX2_total_4 : decode cX2_total 4 = .ok (.iload_n 3, 1) := by decide +kernel
theorem dX2_total_5 : decode cX2_total 5 = .ok (.aload_n 0, 1) := by decide +kernel
theorem dX2_total_6 : decode cX2_total 6 = .ok (.invokevirtual 56, 3) := by decide +kernel
theorem dX2_total_9 : decode cX2_total 9 = .ok (.if_icmp .ge 15, 3) := by decide +kernel
theorem dX2_total_12 : decode cX2_total 12 = .ok (.iload_n 2, 1) := by decide +kernel
theorem dX2_total_13 : decode cX2_total 13 = .ok (.aload_n 1, 1) := by decide +kernel
theorem dX2_total_14 : decode cX2_total 14 = .ok (.iload_n 3, 1) := by decide +kernel
theorem dX2_total_15 : decode cX2_total 15 = .ok (.iaload, 1) := by decide +kernel
theorem dX2_total_16 : decode cX2_total 16 = .ok (.iadd, 1) := by decide +kernel
theorem dX2_total_17 : decode cX2_total 17 = .ok (.istore_n 2, 1) := by decide +kernel
theorem dX2_total_18 : decode cX2_total 18 = .ok (.iinc 3 1, 3) := by decide +kernel
theorem dX2_total_21 : decode cX2_total 21 = .ok (.goto (-17), 3) := by decide +kernel
theorem dX2_total_24 : decode cX2_total 24 = .ok (.iload_n 2, 1) := by decide +kernel
theorem dX2_total_25 : decode cX2_total 25 = .ok (.ireturn, 1) := by decide +kernel
set_option maxRecDepth 20000 in
theorem ggX2_overwrite_X2_cells : GoodIn wsX2_overwrite wsX2_cells := goodIn_r _ [5, 6, 7, 8, 9, 10, 11, 12] (by decide +kernel) (by decide +kernel)
set_option maxRecDepth 20000 in
theorem gX2_overwrite_X2_cells : GoodIn wsX2_overwrite (wsV RX2 56 RX2 yX2_cells wsX2_cells) := goodIn_app (goodIn_of _ (by decide +kernel)) ggX2_overwrite_X2_cells
theorem dX2_overwrite_0 : decode cX2_overwrite 0 = .ok (.iconst 0, 1) := by decide +kernel
theorem dX2_overwrite_1 : decode cX2_overwrite 1 = .ok (.istore_n 3, 1) := by decide +kernel
theorem dX2_overwrite_2 : decode cX2_overwrite 2 = .ok (.iconst 0, 1) := by decide +kernel
theorem dX2_overwrite_3 : decode cX2_overwrite 3 = .ok (.istore 4, 2) := by decide +kernel
theorem dX2_overwrite_5 : decode cX2_overwrite 5 = .ok (.iload 4, 2) := by decide +kernel
theorem dX2_overwrite_7 : decode cX2_overwrite 7 = .ok (.aload_n 0, 1) := by decide +kernel
theorem dX2_overwrite_8 : decode cX2_overwrite 8 = .ok (.invokevirtual 56, 3) := by decide +kernel
theorem dX2_overwrite_11 : decode cX2_overwrite 11 = .ok (.if_icmp .ge 31, 3) := by decide +kernel
theorem dX2_overwrite_14 : decode cX2_overwrite 14 = .ok (.aload_n 2, 1) := by decide +kernel
theorem dX2_overwrite_15 : decode cX2_overwrite 15 = .ok (.iload 4, 2) := by decide +kernel
theorem dX2_overwrite_17 : decode cX2_overwrite 17 = .ok (.iaload, 1) := by decide +kernel
theorem dX2_overwrite_18 : decode cX2_overwrite 18 = .ok (.aload_n 1, 1) := by decide +kernel
theorem dX2_overwrite_19 : decode cX2_overwrite 19 = .ok (.iload 4, 2) := by decide +kernel
theorem dX2_overwrite_21 : decode cX2_overwrite 21 = .ok (.iaload, 1) := by decide +kernel
theorem dX2_overwrite_22 : decode cX2_overwrite 22 = .ok (.if_icmp .eq 6, 3) := by decide +kernel
theorem dX2_overwrite_25 : decode cX2_overwrite 25 = .ok (.iinc 3 1, 3) := by decide +kernel
theorem dX2_overwrite_28 : decode cX2_overwrite 28 = .ok (.aload_n 2, 1) := by decide +kernel
theorem dX2_overwrite_29 : decode cX2_overwrite 29 = .ok (.iload 4, 2) := by decide +kernel
theorem dX2_overwrite_31 : decode cX2_overwrite 31 = .ok (.aload_n 1, 1) := by decide +kernel
theorem dX2_overwrite_32 : decode cX2_overwrite 32 = .ok (.iload 4, 2) := by decide +kernel
theorem dX2_overwrite_34 : decode cX2_overwrite 34 = .ok (.iaload, 1) := by decide +kernel
theorem dX2_overwrite_35 : decode cX2_overwrite 35 = .ok (.iastore, 1) := by decide +kernel
theorem dX2_overwrite_36 : decode cX2_overwrite 36 = .ok (.iinc 4 1, 3) := by decide +kernel
theorem dX2_overwrite_39 : decode cX2_overwrite 39 = .ok (.goto (-34), 3) := by decide +kernel
theorem dX2_overwrite_42 : decode cX2_overwrite 42 = .ok (.iload_n 3, 1) := by decide +kernel
theorem dX2_overwrite_43 : decode cX2_overwrite 43 = .ok (.ireturn, 1) := by decide +kernel
set_option maxRecDepth 20000 in
theorem ggX2_compare_X2_cells : GoodIn wsX2_compare wsX2_cells := goodIn_r _ [5, 6, 7, 8, 9, 10, 11, 12] (by decide +kernel) (by decide +kernel)
set_option maxRecDepth 20000 in
theorem gX2_compare_X2_cells : GoodIn wsX2_compare (wsV RX2 56 RX2 yX2_cells wsX2_cells) := goodIn_app (goodIn_of _ (by decide +kernel)) ggX2_compare_X2_cells
theorem dX2_compare_0 : decode cX2_compare 0 = .ok (.iconst 0, 1) := by decide +kernel
theorem dX2_compare_1 : decode cX2_compare 1 = .ok (.istore_n 3, 1) := by decide +kernel
theorem dX2_compare_2 : decode cX2_compare 2 = .ok (.iload_n 3, 1) := by decide +kernel
theorem dX2_compare_3 : decode cX2_compare 3 = .ok (.aload_n 0, 1) := by decide +kernel
theorem dX2_compare_4 : decode cX2_compare 4 = .ok (.invokevirtual 56, 3) := by decide +kernel
theorem dX2_compare_7 : decode cX2_compare 7 = .ok (.if_icmp .ge 26, 3) := by decide +kernel
theorem dX2_compare_10 : decode cX2_compare 10 = .ok (.aload_n 1, 1) := by decide +kernel
theorem dX2_compare_11 : decode cX2_compare 11 = .ok (.iload_n 3, 1) := by decide +kernel
theorem dX2_compare_12 : decode cX2_compare 12 = .ok (.iaload, 1) := by decide +kernel
theorem dX2_compare_13 : decode cX2_compare 13 = .ok (.aload_n 2, 1) := by decide +kernel
theorem dX2_compare_14 : decode cX2_compare 14 = .ok (.iload_n 3, 1) := by decide +kernel
theorem dX2_compare_15 : decode cX2_compare 15 = .ok (.iaload, 1) := by decide +kernel
theorem dX2_compare_16 : decode cX2_compare 16 = .ok (.if_icmp .eq 11, 3) := by decide +kernel
theorem dX2_compare_19 : decode cX2_compare 19 = .ok (.aload_n 1, 1) := by decide +kernel
theorem dX2_compare_20 : decode cX2_compare 20 = .ok (.iload_n 3, 1) := by decide +kernel
theorem dX2_compare_21 : decode cX2_compare 21 = .ok (.iaload, 1) := by decide +kernel
theorem dX2_compare_22 : decode cX2_compare 22 = .ok (.aload_n 2, 1) := by decide +kernel
theorem dX2_compare_23 : decode cX2_compare 23 = .ok (.iload_n 3, 1) := by decide +kernel
theorem dX2_compare_24 : decode cX2_compare 24 = .ok (.iaload, 1) := by decide +kernel
theorem dX2_compare_25 : decode cX2_compare 25 = .ok (.isub, 1) := by decide +kernel
theorem dX2_compare_26 : decode cX2_compare 26 = .ok (.ireturn, 1) := by decide +kernel
theorem dX2_compare_27 : decode cX2_compare 27 = .ok (.iinc 3 1, 3) := by decide +kernel
theorem dX2_compare_30 : decode cX2_compare 30 = .ok (.goto (-28), 3) := by decide +kernel
theorem dX2_compare_33 : decode cX2_compare 33 = .ok (.iconst 0, 1) := by decide +kernel
theorem dX2_compare_34 : decode cX2_compare 34 = .ok (.ireturn, 1) := by decide +kernel
theorem dX3_init_0 : decode cX3_init 0 = .ok (.aload_n 0, 1) := by decide +kernel
theorem dX3_init_1 : decode cX3_init 1 = .ok (.invokespecial 3, 3) := by decide +kernel
theorem dX3_init_4 : decode cX3_init 4 = .ok (.aload_n 0, 1) := by decide +kernel
theorem dX3_init_5 : decode cX3_init 5 = .ok (.iconst 5, 1) := by decide +kernel
theorem dX3_init_6 : decode cX3_init 6 = .ok (.newarray .int, 2) := by decide +kernel
theorem dX3_init_8 : decode cX3_init 8 = .ok (.putfield 9, 3) := by decide +kernel
theorem dX3_init_11 : decode cX3_init 11 = .ok (.aload_n 0, 1) := by decide +kernel
theorem dX3_init_12 : decode cX3_init 12 = .ok (.iconst 5, 1) := by decide +kernel
theorem dX3_init_13 : decode cX3_init 13 = .ok (.newarray .int, 2) := by decide +kernel
theorem dX3_init_15 : decode cX3_init 15 = .ok (.putfield 15, 3) := by decide +kernel
theorem dX3_init_18 : decode cX3_init 18 = .ok (.return_, 1) := by decide +kernel
set_option maxRecDepth 20000 in
theorem ggX3_putAll_J7_fill_53178 : GoodIn wsX3_putAll wsJ7_fill_53178 := goodIn_r _ [6] (by decide +kernel) (by decide +kernel)
set_option maxRecDepth 20000 in
theorem gX3_putAll_J7_fill_53178 : GoodIn wsX3_putAll (va_wsS RX3 18 yJ7_fill_53178 wsJ7_fill_53178) := goodIn_app (goodIn_of _ (by decide +kernel)) ggX3_putAll_J7_fill_53178
theorem dX3_putAll_0 : decode cX3_putAll 0 = .ok (.aload_n 0, 1) := by decide +kernel
theorem dX3_putAll_1 : decode cX3_putAll 1 = .ok (.getfield 9, 3) := by decide +kernel
theorem dX3_putAll_4 : decode cX3_putAll 4 = .ok (.iload_n 1, 1) := by decide +kernel
theorem dX3_putAll_5 : decode cX3_putAll 5 = .ok (.invokestatic 18, 3) := by decide +kernel
theorem dX3_putAll_8 : decode cX3_putAll 8 = .ok (.aload_n 0, 1) := by decide +kernel
theorem dX3_putAll_9 : decode cX3_putAll 9 = .ok (.getfield 15, 3) := by decide +kernel
theorem dX3_putAll_12 : decode cX3_putAll 12 = .ok (.iload_n 1, 1) := by decide +kernel
theorem dX3_putAll_13 : decode cX3_putAll 13 = .ok (.invokestatic 18, 3) := by decide +kernel
theorem dX3_putAll_16 : decode cX3_putAll 16 = .ok (.return_, 1) := by decide +kernel
theorem dX3_of_0 : decode cX3_of 0 = .ok (.iload_n 1, 1) := by decide +kernel
theorem dX3_of_1 : decode cX3_of 1 = .ok (.ifCond .eq 12, 3) := by decide +kernel
theorem dX3_of_4 : decode cX3_of 4 = .ok (.aload_n 0, 1) := by decide +kernel
theorem dX3_of_5 : decode cX3_of 5 = .ok (.getfield 9, 3) := by decide +kernel
theorem dX3_of_8 : decode cX3_of 8 = .ok (.iload_n 2, 1) := by decide +kernel
theorem dX3_of_9 : decode cX3_of 9 = .ok (.iaload, 1) := by decide +kernel
theorem dX3_of_10 : decode cX3_of 10 = .ok (.goto 9, 3) := by decide +kernel
theorem dX3_of_13 : decode cX3_of 13 = .ok (.aload_n 0, 1) := by decide +kernel
theorem dX3_of_14 : decode cX3_of 14 = .ok (.getfield 15, 3) := by decide +kernel
theorem dX3_of_17 : decode cX3_of 17 = .ok (.iload_n 2, 1) := by decide +kernel
theorem dX3_of_18 : decode cX3_of 18 = .ok (.iaload, 1) := by decide +kernel
theorem dX3_of_19 : decode cX3_of 19 = .ok (.ireturn, 1) := by decide +kernel
theorem dX3_put_0 : decode cX3_put 0 = .ok (.iload_n 1, 1) := by decide +kernel
theorem dX3_put_1 : decode cX3_put 1 = .ok (.ifCond .eq 10, 3) := by decide +kernel
theorem dX3_put_4 : decode cX3_put 4 = .ok (.aload_n 0, 1) := by decide +kernel
theorem dX3_put_5 : decode cX3_put 5 = .ok (.getfield 9, 3) := by decide +kernel
theorem dX3_put_8 : decode cX3_put 8 = .ok (.goto 7, 3) := by decide +kernel
theorem dX3_put_11 : decode cX3_put 11 = .ok (.aload_n 0, 1) := by decide +kernel
theorem dX3_put_12 : decode cX3_put 12 = .ok (.getfield 15, 3) := by decide +kernel
theorem dX3_put_15 : decode cX3_put 15 = .ok (.astore 4, 2) := by decide +kernel
theorem dX3_put_17 : decode cX3_put 17 = .ok (.aload 4, 2) := by decide +kernel
theorem dX3_put_19 : decode cX3_put 19 = .ok (.iload_n 2, 1) := by decide +kernel
theorem dX3_put_20 : decode cX3_put 20 = .ok (.iaload, 1) := by decide +kernel
theorem dX3_put_21 : decode cX3_put 21 = .ok (.istore 5, 2) := by decide +kernel
theorem dX3_put_23 : decode cX3_put 23 = .ok (.aload 4, 2) := by decide +kernel
theorem dX3_put_25 : decode cX3_put 25 = .ok (.iload_n 2, 1) := by decide +kernel
theorem dX3_put_26 : decode cX3_put 26 = .ok (.iload_n 3, 1) := by decide +kernel
theorem dX3_put_27 : decode cX3_put 27 = .ok (.iastore, 1) := by decide +kernel
theorem dX3_put_28 : decode cX3_put 28 = .ok (.iload 5, 2) := by decide +kernel
theorem dX3_put_30 : decode cX3_put 30 = .ok (.ireturn, 1) := by decide +kernel
