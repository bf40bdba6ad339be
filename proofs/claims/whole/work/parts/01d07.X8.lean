theorem dX8_noCell_20 : decode cX8_noCell 20 = .ok (.ireturn, 1) := by decide +kernel
set_option maxRecDepth 20000 in
theorem ggX8_noLine_X2_lines : GoodIn wsX8_noLine wsX2_lines := goodIn_r _ [6, 7, 8, 17, 18, 19, 20, 21] (by decide +kernel) (by decide +kernel)
set_option maxRecDepth 20000 in
theorem gX8_noLine_X2_lines : GoodIn wsX8_noLine (wsV RX8 219 RX2 yX2_lines wsX2_lines) := goodIn_app (goodIn_of _ (by decide +kernel)) ggX8_noLine_X2_lines
theorem dX8_noLine_0 : decode cX8_noLine 0 = .ok (.iload_n 2, 1) := by decide +kernel
theorem dX8_noLine_1 : decode cX8_noLine 1 = .ok (.ifCond .lt 15, 3) := by decide +kernel
theorem dX8_noLine_4 : decode cX8_noLine 4 = .ok (.iload_n 2, 1) := by decide +kernel
theorem dX8_noLine_5 : decode cX8_noLine 5 = .ok (.aload_n 0, 1) := by decide +kernel
theorem dX8_noLine_6 : decode cX8_noLine 6 = .ok (.getfield 14, 3) := by decide +kernel
theorem dX8_noLine_9 : decode cX8_noLine 9 = .ok (.iload_n 1, 1) := by decide +kernel
theorem dX8_noLine_10 : decode cX8_noLine 10 = .ok (.invokevirtual 219, 3) := by decide +kernel
theorem dX8_noLine_13 : decode cX8_noLine 13 = .ok (.if_icmp .lt 7, 3) := by decide +kernel
theorem dX8_noLine_16 : decode cX8_noLine 16 = .ok (.iconst 1, 1) := by decide +kernel
theorem dX8_noLine_17 : decode cX8_noLine 17 = .ok (.goto 4, 3) := by decide +kernel
theorem dX8_noLine_20 : decode cX8_noLine 20 = .ok (.iconst 0, 1) := by decide +kernel
theorem dX8_noLine_21 : decode cX8_noLine 21 = .ok (.ireturn, 1) := by decide +kernel
