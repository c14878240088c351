theorem dX0_firstOf_0 : decode cX0_firstOf 0 = .ok (.iload_n 0, 1) := by decide +kernel
theorem dX0_firstOf_1 : decode cX0_firstOf 1 = .ok (.ifCond .gt 5, 3) := by decide +kernel
theorem dX0_firstOf_4 : decode cX0_firstOf 4 = .ok (.lconst 0, 1) := by decide +kernel
theorem dX0_firstOf_5 : decode cX0_firstOf 5 = .ok (.lreturn, 1) := by decide +kernel
theorem dX0_firstOf_6 : decode cX0_firstOf 6 = .ok (.iload_n 0, 1) := by decide +kernel
theorem dX0_firstOf_7 : decode cX0_firstOf 7 = .ok (.bipush 64, 2) := by decide +kernel
theorem dX0_firstOf_9 : decode cX0_firstOf 9 = .ok (.if_icmp .lt 9, 3) := by decide +kernel
theorem dX0_firstOf_12 : decode cX0_firstOf 12 = .ok (.ldc2_w 7, 3) := by decide +kernel
theorem dX0_firstOf_15 : decode cX0_firstOf 15 = .ok (.goto 8, 3) := by decide +kernel
theorem dX0_firstOf_18 : decode cX0_firstOf 18 = .ok (.lconst 1, 1) := by decide +kernel
theorem dX0_firstOf_19 : decode cX0_firstOf 19 = .ok (.iload_n 0, 1) := by decide +kernel
theorem dX0_firstOf_20 : decode cX0_firstOf 20 = .ok (.lshl, 1) := by decide +kernel
theorem dX0_firstOf_21 : decode cX0_firstOf 21 = .ok (.lconst 1, 1) := by decide +kernel
theorem dX0_firstOf_22 : decode cX0_firstOf 22 = .ok (.lsub, 1) := by decide +kernel
theorem dX0_firstOf_23 : decode cX0_firstOf 23 = .ok (.lreturn, 1) := by decide +kernel
theorem dX0_upLow_0 : decode cX0_upLow 0 = .ok (.iload_n 2, 1) := by decide +kernel
theorem dX0_upLow_1 : decode cX0_upLow 1 = .ok (.bipush 64, 2) := by decide +kernel
theorem dX0_upLow_3 : decode cX0_upLow 3 = .ok (.if_icmp .ge 9, 3) := by decide +kernel
theorem dX0_upLow_6 : decode cX0_upLow 6 = .ok (.lload_n 0, 1) := by decide +kernel
theorem dX0_upLow_7 : decode cX0_upLow 7 = .ok (.iload_n 2, 1) := by decide +kernel
theorem dX0_upLow_8 : decode cX0_upLow 8 = .ok (.lshl, 1) := by decide +kernel
theorem dX0_upLow_9 : decode cX0_upLow 9 = .ok (.goto 4, 3) := by decide +kernel
theorem dX0_upLow_12 : decode cX0_upLow 12 = .ok (.lconst 0, 1) := by decide +kernel
theorem dX0_upLow_13 : decode cX0_upLow 13 = .ok (.lreturn, 1) := by decide +kernel
theorem dX0_upHigh_0 : decode cX0_upHigh 0 = .ok (.iload 4, 2) := by decide +kernel
theorem dX0_upHigh_2 : decode cX0_upHigh 2 = .ok (.ifCond .ne 5, 3) := by decide +kernel
theorem dX0_upHigh_5 : decode cX0_upHigh 5 = .ok (.lload_n 2, 1) := by decide +kernel
theorem dX0_upHigh_6 : decode cX0_upHigh 6 = .ok (.lreturn, 1) := by decide +kernel
theorem dX0_upHigh_7 : decode cX0_upHigh 7 = .ok (.iload 4, 2) := by decide +kernel
theorem dX0_upHigh_9 : decode cX0_upHigh 9 = .ok (.bipush 64, 2) := by decide +kernel
theorem dX0_upHigh_11 : decode cX0_upHigh 11 = .ok (.if_icmp .ge 16, 3) := by decide +kernel
theorem dX0_upHigh_14 : decode cX0_upHigh 14 = .ok (.lload_n 2, 1) := by decide +kernel
theorem dX0_upHigh_15 : decode cX0_upHigh 15 = .ok (.iload 4, 2) := by decide +kernel
theorem dX0_upHigh_17 : decode cX0_upHigh 17 = .ok (.lshl, 1) := by decide +kernel
theorem dX0_upHigh_18 : decode cX0_upHigh 18 = .ok (.lload_n 0, 1) := by decide +kernel
theorem dX0_upHigh_19 : decode cX0_upHigh 19 = .ok (.bipush 64, 2) := by decide +kernel
theorem dX0_upHigh_21 : decode cX0_upHigh 21 = .ok (.iload 4, 2) := by decide +kernel
theorem dX0_upHigh_23 : decode cX0_upHigh 23 = .ok (.isub, 1) := by decide +kernel
theorem dX0_upHigh_24 : decode cX0_upHigh 24 = .ok (.lushr, 1) := by decide +kernel
theorem dX0_upHigh_25 : decode cX0_upHigh 25 = .ok (.lor, 1) := by decide +kernel
theorem dX0_upHigh_26 : decode cX0_upHigh 26 = .ok (.lreturn, 1) := by decide +kernel
theorem dX0_upHigh_27 : decode cX0_upHigh 27 = .ok (.iload 4, 2) := by decide +kernel
theorem dX0_upHigh_29 : decode cX0_upHigh 29 = .ok (.sipush 128, 3) := by decide +kernel
theorem dX0_upHigh_32 : decode cX0_upHigh 32 = .ok (.if_icmp .ge 13, 3) := by decide +kernel
theorem dX0_upHigh_35 : decode cX0_upHigh 35 = .ok (.lload_n 0, 1) := by decide +kernel
theorem dX0_upHigh_36 : decode cX0_upHigh 36 = .ok (.iload 4, 2) := by decide +kernel
theorem dX0_upHigh_38 : decode cX0_upHigh 38 = .ok (.bipush 64, 2) := by decide +kernel
theorem dX0_upHigh_40 : decode cX0_upHigh 40 = .ok (.isub, 1) := by decide +kernel
theorem dX0_upHigh_41 : decode cX0_upHigh 41 = .ok (.lshl, 1) := by decide +kernel
theorem dX0_upHigh_42 : decode cX0_upHigh 42 = .ok (.goto 4, 3) := by decide +kernel
theorem dX0_upHigh_45 : decode cX0_upHigh 45 = .ok (.lconst 0, 1) := by decide +kernel
theorem dX0_upHigh_46 : decode cX0_upHigh 46 = .ok (.lreturn, 1) := by decide +kernel
theorem dX0_downLow_0 : decode cX0_downLow 0 = .ok (.iload 4, 2) := by decide +kernel
theorem dX0_downLow_2 : decode cX0_downLow 2 = .ok (.ifCond .ne 5, 3) := by decide +kernel
theorem dX0_downLow_5 : decode cX0_downLow 5 = .ok (.lload_n 0, 1) := by decide +kernel
theorem dX0_downLow_6 : decode cX0_downLow 6 = .ok (.lreturn, 1) := by decide +kernel
theorem dX0_downLow_7 : decode cX0_downLow 7 = .ok (.iload 4, 2) := by decide +kernel
theorem dX0_downLow_9 : decode cX0_downLow 9 = .ok (.bipush 64, 2) := by decide +kernel
theorem dX0_downLow_11 : decode cX0_downLow 11 = .ok (.if_icmp .ge 16, 3) := by decide +kernel
theorem dX0_downLow_14 : decode cX0_downLow 14 = .ok (.lload_n 0, 1) := by decide +kernel
theorem dX0_downLow_15 : decode cX0_downLow 15 = .ok (.iload 4, 2) := by decide +kernel
theorem dX0_downLow_17 : decode cX0_downLow 17 = .ok (.lushr, 1) := by decide +kernel
theorem dX0_downLow_18 : decode cX0_downLow 18 = .ok (.lload_n 2, 1) := by decide +kernel
theorem dX0_downLow_19 : decode cX0_downLow 19 = .ok (.bipush 64, 2) := by decide +kernel
theorem dX0_downLow_21 : decode cX0_downLow 21 = .ok (.iload 4, 2) := by decide +kernel
theorem dX0_downLow_23 : decode cX0_downLow 23 = .ok (.isub, 1) := by decide +kernel
theorem dX0_downLow_24 : decode cX0_downLow 24 = .ok (.lshl, 1) := by decide +kernel
theorem dX0_downLow_25 : decode cX0_downLow 25 = .ok (.lor, 1) := by decide +kernel
theorem dX0_downLow_26 : decode cX0_downLow 26 = .ok (.lreturn, 1) := by decide +kernel
theorem dX0_downLow_27 : decode cX0_downLow 27 = .ok (.iload 4, 2) := by decide +kernel
theorem dX0_downLow_29 : decode cX0_downLow 29 = .ok (.sipush 128, 3) := by decide +kernel
theorem dX0_downLow_32 : decode cX0_downLow 32 = .ok (.if_icmp .ge 13, 3) := by decide +kernel
theorem dX0_downLow_35 : decode cX0_downLow 35 = .ok (.lload_n 2, 1) := by decide +kernel
theorem dX0_downLow_36 : decode cX0_downLow 36 = .ok (.iload 4, 2) := by decide +kernel
theorem dX0_downLow_38 : decode cX0_downLow 38 = .ok (.bipush 64, 2) := by decide +kernel
theorem dX0_downLow_40 : decode cX0_downLow 40 = .ok (.isub, 1) := by decide +kernel
theorem dX0_downLow_41 : decode cX0_downLow 41 = .ok (.lushr, 1) := by decide +kernel
theorem dX0_downLow_42 : decode cX0_downLow 42 = .ok (.goto 4, 3) := by decide +kernel
theorem dX0_downLow_45 : decode cX0_downLow 45 = .ok (.lconst 0, 1) := by decide +kernel
theorem dX0_downLow_46 : decode cX0_downLow 46 = .ok (.lreturn, 1) := by decide +kernel
theorem dX0_downHigh_0 : decode cX0_downHigh 0 = .ok (.iload_n 2, 1) := by decide +kernel
theorem dX0_downHigh_1 : decode cX0_downHigh 1 = .ok (.bipush 64, 2) := by decide +kernel
theorem dX0_downHigh_3 : decode cX0_downHigh 3 = .ok (.if_icmp .ge 9, 3) := by decide +kernel
theorem dX0_downHigh_6 : decode cX0_downHigh 6 = .ok (.lload_n 0, 1) := by decide +kernel
theorem dX0_downHigh_7 : decode cX0_downHigh 7 = .ok (.iload_n 2, 1) := by decide +kernel
theorem dX0_downHigh_8 : decode cX0_downHigh 8 = .ok (.lushr, 1) := by decide +kernel
theorem dX0_downHigh_9 : decode cX0_downHigh 9 = .ok (.goto 4, 3) := by decide +kernel
theorem dX0_downHigh_12 : decode cX0_downHigh 12 = .ok (.lconst 0, 1) := by decide +kernel
theorem dX0_downHigh_13 : decode cX0_downHigh 13 = .ok (.lreturn, 1) := by decide +kernel
set_option maxRecDepth 20000 in
theorem ggX0_indexOfOne_J13_bitCount_95d88 : GoodIn wsX0_indexOfOne wsJ13_bitCount_95d88 := goodIn_r _ [4, 5, 6, 7] rfl (by decide +kernel)
set_option maxRecDepth 20000 in
theorem gX0_indexOfOne_J13_bitCount_95d88 : GoodIn wsX0_indexOfOne (va_wsS RX0 9 yJ13_bitCount_95d88 wsJ13_bitCount_95d88) := goodIn_app (goodIn_of _ (by decide +kernel)) ggX0_indexOfOne_J13_bitCount_95d88
theorem dX0_indexOfOne_0 : decode cX0_indexOfOne 0 = .ok (.lload_n 0, 1) := by decide +kernel
theorem dX0_indexOfOne_1 : decode cX0_indexOfOne 1 = .ok (.lstore_n 3, 1) := by decide +kernel
theorem dX0_indexOfOne_2 : decode cX0_indexOfOne 2 = .ok (.iconst 0, 1) := by decide +kernel
theorem dX0_indexOfOne_3 : decode cX0_indexOfOne 3 = .ok (.istore 5, 2) := by decide +kernel
theorem dX0_indexOfOne_5 : decode cX0_indexOfOne 5 = .ok (.iload 5, 2) := by decide +kernel
theorem dX0_indexOfOne_7 : decode cX0_indexOfOne 7 = .ok (.iload_n 2, 1) := by decide +kernel
theorem dX0_indexOfOne_8 : decode cX0_indexOfOne 8 = .ok (.if_icmp .ge 15, 3) := by decide +kernel
theorem dX0_indexOfOne_11 : decode cX0_indexOfOne 11 = .ok (.lload_n 3, 1) := by decide +kernel
theorem dX0_indexOfOne_12 : decode cX0_indexOfOne 12 = .ok (.lload_n 3, 1) := by decide +kernel
theorem dX0_indexOfOne_13 : decode cX0_indexOfOne 13 = .ok (.lconst 1, 1) := by decide +kernel
theorem dX0_indexOfOne_14 : decode cX0_indexOfOne 14 = .ok (.lsub, 1) := by decide +kernel
theorem dX0_indexOfOne_15 : decode cX0_indexOfOne 15 = .ok (.land, 1) := by decide +kernel
theorem dX0_indexOfOne_16 : decode cX0_indexOfOne 16 = .ok (.lstore_n 3, 1) := by decide +kernel
theorem dX0_indexOfOne_17 : decode cX0_indexOfOne 17 = .ok (.iinc 5 1, 3) := by decide +kernel
theorem dX0_indexOfOne_20 : decode cX0_indexOfOne 20 = .ok (.goto (-15), 3) := by decide +kernel
theorem dX0_indexOfOne_23 : decode cX0_indexOfOne 23 = .ok (.lload_n 3, 1) := by decide +kernel
theorem dX0_indexOfOne_24 : decode cX0_indexOfOne 24 = .ok (.lload_n 3, 1) := by decide +kernel
theorem dX0_indexOfOne_25 : decode cX0_indexOfOne 25 = .ok (.lneg, 1) := by decide +kernel
theorem dX0_indexOfOne_26 : decode cX0_indexOfOne 26 = .ok (.land, 1) := by decide +kernel
theorem dX0_indexOfOne_27 : decode cX0_indexOfOne 27 = .ok (.lconst 1, 1) := by decide +kernel
theorem dX0_indexOfOne_28 : decode cX0_indexOfOne 28 = .ok (.lsub, 1) := by decide +kernel
theorem dX0_indexOfOne_29 : decode cX0_indexOfOne 29 = .ok (.invokestatic 9, 3) := by decide +kernel
theorem dX0_indexOfOne_32 : decode cX0_indexOfOne 32 = .ok (.ireturn, 1) := by decide +kernel
theorem dJ13_bitCount_95d88_0 : decode cJ13_bitCount_95d88 0 = .ok (.lload_n 0, 1) := by decide +kernel
theorem dJ13_bitCount_95d88_1 : decode cJ13_bitCount_95d88 1 = .ok (.lload_n 0, 1) := by decide +kernel
theorem dJ13_bitCount_95d88_2 : decode cJ13_bitCount_95d88 2 = .ok (.iconst 1, 1) := by decide +kernel
theorem dJ13_bitCount_95d88_3 : decode cJ13_bitCount_95d88 3 = .ok (.lushr, 1) := by decide +kernel
theorem dJ13_bitCount_95d88_4 : decode cJ13_bitCount_95d88 4 = .ok (.ldc2_w 314, 3) := by decide +kernel
theorem dJ13_bitCount_95d88_7 : decode cJ13_bitCount_95d88 7 = .ok (.land, 1) := by decide +kernel
theorem dJ13_bitCount_95d88_8 : decode cJ13_bitCount_95d88 8 = .ok (.lsub, 1) := by decide +kernel
theorem dJ13_bitCount_95d88_9 : decode cJ13_bitCount_95d88 9 = .ok (.lstore_n 0, 1) := by decide +kernel
theorem dJ13_bitCount_95d88_10 : decode cJ13_bitCount_95d88 10 = .ok (.lload_n 0, 1) := by decide +kernel
theorem dJ13_bitCount_95d88_11 : decode cJ13_bitCount_95d88 11 = .ok (.ldc2_w 316, 3) := by decide +kernel
theorem dJ13_bitCount_95d88_14 : decode cJ13_bitCount_95d88 14 = .ok (.land, 1) := by decide +kernel
theorem dJ13_bitCount_95d88_15 : decode cJ13_bitCount_95d88 15 = .ok (.lload_n 0, 1) := by decide +kernel
theorem dJ13_bitCount_95d88_16 : decode cJ13_bitCount_95d88 16 = .ok (.iconst 2, 1) := by decide +kernel
theorem dJ13_bitCount_95d88_17 : decode cJ13_bitCount_95d88 17 = .ok (.lushr, 1) := by decide +kernel
theorem dJ13_bitCount_95d88_18 : decode cJ13_bitCount_95d88 18 = .ok (.ldc2_w 316, 3) := by decide +kernel
theorem dJ13_bitCount_95d88_21 : decode cJ13_bitCount_95d88 21 = .ok (.land, 1) := by decide +kernel
theorem dJ13_bitCount_95d88_22 : decode cJ13_bitCount_95d88 22 = .ok (.ladd, 1) := by decide +kernel
theorem dJ13_bitCount_95d88_23 : decode cJ13_bitCount_95d88 23 = .ok (.lstore_n 0, 1) := by decide +kernel
theorem dJ13_bitCount_95d88_24 : decode cJ13_bitCount_95d88 24 = .ok (.lload_n 0, 1) := by decide +kernel
theorem dJ13_bitCount_95d88_25 : decode cJ13_bitCount_95d88 25 = .ok (.lload_n 0, 1) := by decide +kernel
theorem dJ13_bitCount_95d88_26 : decode cJ13_bitCount_95d88 26 = .ok (.iconst 4, 1) := by decide +kernel
theorem dJ13_bitCount_95d88_27 : decode cJ13_bitCount_95d88 27 = .ok (.lushr, 1) := by decide +kernel
theorem dJ13_bitCount_95d88_28 : decode cJ13_bitCount_95d88 28 = .ok (.ladd, 1) := by decide +kernel
theorem dJ13_bitCount_95d88_29 : decode cJ13_bitCount_95d88 29 = .ok (.ldc2_w 318, 3) := by decide +kernel
theorem dJ13_bitCount_95d88_32 : decode cJ13_bitCount_95d88 32 = .ok (.land, 1) := by decide +kernel
theorem dJ13_bitCount_95d88_33 : decode cJ13_bitCount_95d88 33 = .ok (.lstore_n 0, 1) := by decide +kernel
theorem dJ13_bitCount_95d88_34 : decode cJ13_bitCount_95d88 34 = .ok (.lload_n 0, 1) := by decide +kernel
theorem dJ13_bitCount_95d88_35 : decode cJ13_bitCount_95d88 35 = .ok (.lload_n 0, 1) := by decide +kernel
theorem dJ13_bitCount_95d88_36 : decode cJ13_bitCount_95d88 36 = .ok (.bipush 8, 2) := by decide +kernel
theorem dJ13_bitCount_95d88_38 : decode cJ13_bitCount_95d88 38 = .ok (.lushr, 1) := by decide +kernel
theorem dJ13_bitCount_95d88_39 : decode cJ13_bitCount_95d88 39 = .ok (.ladd, 1) := by decide +kernel
theorem dJ13_bitCount_95d88_40 : decode cJ13_bitCount_95d88 40 = .ok (.lstore_n 0, 1) := by decide +kernel
theorem dJ13_bitCount_95d88_41 : decode cJ13_bitCount_95d88 41 = .ok (.lload_n 0, 1) := by decide +kernel
theorem dJ13_bitCount_95d88_42 : decode cJ13_bitCount_95d88 42 = .ok (.lload_n 0, 1) := by decide +kernel
theorem dJ13_bitCount_95d88_43 : decode cJ13_bitCount_95d88 43 = .ok (.bipush 16, 2) := by decide +kernel
theorem dJ13_bitCount_95d88_45 : decode cJ13_bitCount_95d88 45 = .ok (.lushr, 1) := by decide +kernel
theorem dJ13_bitCount_95d88_46 : decode cJ13_bitCount_95d88 46 = .ok (.ladd, 1) := by decide +kernel
theorem dJ13_bitCount_95d88_47 : decode cJ13_bitCount_95d88 47 = .ok (.lstore_n 0, 1) := by decide +kernel
theorem dJ13_bitCount_95d88_48 : decode cJ13_bitCount_95d88 48 = .ok (.lload_n 0, 1) := by decide +kernel
theorem dJ13_bitCount_95d88_49 : decode cJ13_bitCount_95d88 49 = .ok (.lload_n 0, 1) := by decide +kernel
theorem dJ13_bitCount_95d88_50 : decode cJ13_bitCount_95d88 50 = .ok (.bipush 32, 2) := by decide +kernel
theorem dJ13_bitCount_95d88_52 : decode cJ13_bitCount_95d88 52 = .ok (.lushr, 1) := by decide +kernel
theorem dJ13_bitCount_95d88_53 : decode cJ13_bitCount_95d88 53 = .ok (.ladd, 1) := by decide +kernel
theorem dJ13_bitCount_95d88_54 : decode cJ13_bitCount_95d88 54 = .ok (.lstore_n 0, 1) := by decide +kernel
theorem dJ13_bitCount_95d88_55 : decode cJ13_bitCount_95d88 55 = .ok (.lload_n 0, 1) := by decide +kernel
theorem dJ13_bitCount_95d88_56 : decode cJ13_bitCount_95d88 56 = .ok (.l2i, 1) := by decide +kernel
theorem dJ13_bitCount_95d88_57 : decode cJ13_bitCount_95d88 57 = .ok (.bipush 127, 2) := by decide +kernel
theorem dJ13_bitCount_95d88_59 : decode cJ13_bitCount_95d88 59 = .ok (.iand, 1) := by decide +kernel
theorem dJ13_bitCount_95d88_60 : decode cJ13_bitCount_95d88 60 = .ok (.ireturn, 1) := by decide +kernel
