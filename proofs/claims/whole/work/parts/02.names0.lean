theorem dX0_firstOf_0 : decode cX0_firstOf 0 = .ok (.iload_n 0, 1) := by decide +kernel
theorem dX0_firstOf_1 : decode cX0_firstOf 1 = .ok (.ifCond .gt 5, 3) := by decide +kernel
theorem dX0_firstOf_4 : decode cX0_firstOf 4 = .ok (.lconst 0, 1) := by decide +kernel
theorem dX0_firstOf_5 : decode cX0_firstOf 5 = .ok (.lreturn, 1) := by decide +kernel
theorem dX0_firstOf_6 : decode cX0_firstOf 6 = .ok (.iload_n 0, 1) := by decide +kernel
theorem dX0_firstOf_7 : decode cX0_firstOf 7 = .ok (.bipush 64, 2) := by decide +kernel
theorem dX0_firstOf_9 : decode cX0_firstOf 9 = .ok (.if_icmp .lt 9, 3) := by decide +kernel
theorem dX0_firstOf_12 : decode cX0_firstOf 12 = .ok (.ldc2_w 7, 3) := by decide +kernel
theorem dX0_firstOf_15 : decode cX0_firstOf 15 = .ok (.goto 8, 3) := by decide +kernel
theorem dX0_firstOf_18 : decode cX0_firstOf 18 = .ok (.lconst 1, 1) := by decide +kernel
theorem dX0_firstOf_19 : decode cX0_firstOf 19 = .ok (.iload_n 0, 1) := by decide +kernel
theorem dX0_firstOf_20 : decode cX0_firstOf 20 = .ok (.lshl, 1) := by decide +kernel
theorem dX0_firstOf_21 : decode cX0_firstOf 21 = .ok (.lconst 1, 1) := by decide +kernel
theorem dX0_firstOf_22 : decode cX0_firstOf 22 = .ok (.lsub, 1) := by decide +kernel
theorem dX0_firstOf_23 : decode cX0_firstOf 23 = .ok (.lreturn, 1) := by decide +kernel
theorem dX0_upLow_0 : decode cX0_upLow 0 = .ok (.iload_n 2, 1) := by decide +kernel
theorem dX0_upLow_1 : decode cX0_upLow 1 = .ok (.bipush 64, 2) := by decide +kernel
theorem dX0_upLow_3 : decode cX0_upLow 3 = .ok (.if_icmp .ge 9, 3) := by decide +kernel
theorem dX0_upLow_6 : decode cX0_upLow 6 = .ok (.lload_n 0, 1) := by decide +kernel
theorem dX0_upLow_7 : decode cX0_upLow 7 = .ok (.iload_n 2, 1) := by decide +kernel
theorem dX0_upLow_8 : decode cX0_upLow 8 = .ok (.lshl, 1) := by decide +kernel
theorem dX0_upLow_9 : decode cX0_upLow 9 = .ok (.goto 4, 3) := by decide +kernel
theorem dX0_upLow_12 : decode cX0_upLow 12 = .ok (.lconst 0, 1) := by decide +kernel
theorem dX0_upLow_13 : decode cX0_upLow 13 = .ok (.lreturn, 1) := by decide +kernel
theorem dX0_upHigh_0 : decode cX0_upHigh 0 = .ok (.iload 4, 2) := by decide +kernel
theorem dX0_upHigh_2 : decode cX0_upHigh 2 = .ok (.ifCond .ne 5, 3) := by decide +kernel
theorem dX0_upHigh_5 : decode cX0_upHigh 5 = .ok (.lload_n 2, 1) := by decide +kernel
theorem dX0_upHigh_6 : decode cX0_upHigh 6 = .ok (.lreturn, 1) := by decide +kernel
theorem dX0_upHigh_7 : decode cX0_upHigh 7 = .ok (.iload 4, 2) := by decide +kernel
theorem dX0_upHigh_9 : decode cX0_upHigh 9 = .ok (.bipush 64, 2) := by decide +kernel
theorem dX0_upHigh_11 : decode cX0_upHigh 11 = .ok (.if_icmp .ge 16, 3) := by decide +kernel
theorem dX0_upHigh_14 : decode cX0_upHigh 14 = .ok (.lload_n 2, 1) := by decide +kernel
theorem dX0_upHigh_15 : decode cX0_upHigh 15 = .ok (.iload 4, 2) := by decide +kernel
theorem dX0_upHigh_17 : decode cX0_upHigh 17 = .ok (.lshl, 1) := by decide +kernel
theorem dX0_upHigh_18 : decode cX0_upHigh 18 = .ok (.lload_n 0, 1) := by decide +kernel
theorem dX0_upHigh_19 : decode cX0_upHigh 19 = .ok (.bipush 64, 2) := by decide +kernel
theorem dX0_upHigh_21 : decode cX0_upHigh 21 = .ok (.iload 4, 2) := by decide +kernel
theorem dX0_upHigh_23 : decode cX0_upHigh 23 = .ok (.isub, 1) := by decide +kernel
theorem dX0_upHigh_24 : decode cX0_upHigh 24 = .ok (.lushr, 1) := by decide +kernel
theorem dX0_upHigh_25 : decode cX0_upHigh 25 = .ok (.lor, 1) := by decide +kernel
theorem dX0_upHigh_26 : decode cX0_upHigh 26 = .ok (.lreturn, 1) := by decide +kernel
theorem dX0_upHigh_27 : decode cX0_upHigh 27 = .ok (.iload 4, 2) := by decide +kernel
theorem dX0_upHigh_29 : decode cX0_upHigh 29 = .ok (.sipush 128, 3) := by decide +kernel
theorem dX0_upHigh_32 : decode cX0_upHigh 32 = .ok (.if_icmp .ge 13, 3) := by decide +kernel
theorem dX0_upHigh_35 : decode cX0_upHigh 35 = .ok (.lload_n 0, 1) := by decide +kernel
theorem dX0_upHigh_36 : decode cX0_upHigh 36 = .ok (.iload 4, 2) := by decide +kernel
theorem dX0_upHigh_38 : decode cX0_upHigh 38 = .ok (.bipush 64, 2) := by decide +kernel
theorem dX0_upHigh_40 : decode cX0_upHigh 40 = .ok (.isub, 1) := by decide +kernel
theorem dX0_upHigh_41 : decode cX0_upHigh 41 = .ok (.lshl, 1) := by decide +kernel
theorem dX0_upHigh_42 : decode cX0_upHigh 42 = .ok (.goto 4, 3) := by decide +kernel
theorem dX0_upHigh_45 : decode cX0_upHigh 45 = .ok (.lconst 0, 1) := by decide +kernel
theorem dX0_upHigh_46 : decode cX0_upHigh 46 = .ok (.lreturn, 1) := by decide +kernel
theorem dX0_downLow_0 : decode cX0_downLow 0 = .ok (.iload 4, 2) := by decide +kernel
theorem dX0_downLow_2 : decode cX0_downLow 2 = .ok (.ifCond .ne 5, 3) := by decide +kernel
theorem dX0_downLow_5 : decode cX0_downLow 5 = .ok (.lload_n 0, 1) := by decide +kernel
theorem dX0_downLow_6 : decode cX0_downLow 6 = .ok (.lreturn, 1) := by decide +kernel
theorem dX0_downLow_7 : decode cX0_downLow 7 = .ok (.iload 4, 2) := by decide +kernel
theorem dX0_downLow_9 : decode cX0_downLow 9 = .ok (.bipush 64, 2) := by decide +kernel
theorem dX0_downLow_11 : decode cX0_downLow 11 = .ok (.if_icmp .ge 16, 3) := by decide +kernel
theorem dX0_downLow_14 : decode cX0_downLow 14 = .ok (.lload_n 0, 1) := by decide +kernel
theorem dX0_downLow_15 : decode cX0_downLow 15 = .ok (.iload 4, 2) := by decide +kernel
theorem dX0_downLow_17 : decode cX0_downLow 17 = .ok (.lushr, 1) := by decide +kernel
theorem dX0_downLow_18 : decode cX0_downLow 18 = .ok (.lload_n 2, 1) := by decide +kernel
theorem dX0_downLow_19 : decode cX0_downLow 19 = .ok (.bipush 64, 2) := by decide +kernel
theorem dX0_downLow_21 : decode cX0_downLow 21 = .ok (.iload 4, 2) := by decide +kernel
theorem dX0_downLow_23 : decode cX0_downLow 23 = .ok (.isub, 1) := by decide +kernel
theorem dX0_downLow_24 : decode cX0_downLow 24 = .ok (.lshl, 1) := by decide +kernel
theorem dX0_downLow_25 : decode cX0_downLow 25 = .ok (.lor, 1) := by decide +kernel
theorem dX0_downLow_26 : decode cX0_downLow 26 = .ok (.lreturn, 1) := by decide +kernel
theorem dX0_downLow_27 : decode cX0_downLow 27 = .ok (.iload 4, 2) := by decide +kernel
theorem dX0_downLow_29 : decode cX0_downLow 29 = .ok (.sipush 128, 3) := by decide +kernel
theorem dX0_downLow_32 : decode cX0_downLow 32 = .ok (.if_icmp .ge 13, 3) := by decide +kernel
theorem dX0_downLow_35 : decode cX0_downLow 35 = .ok (.lload_n 2, 1) := by decide +kernel
theorem dX0_downLow_36 : decode cX0_downLow 36 = .ok (.iload 4, 2) := by decide +kernel
theorem dX0_downLow_38 : decode cX0_downLow 38 = .ok (.bipush 64, 2) := by decide +kernel
theorem dX0_downLow_40 : decode cX0_downLow 40 = .ok (.isub, 1) := by decide +kernel
theorem dX0_downLow_41 : decode cX0_downLow 41 = .ok (.lushr, 1) := by decide +kernel
theorem dX0_downLow_42 : decode cX0_downLow 42 = .ok (.goto 4, 3) := by decide +kernel
theorem dX0_downLow_45 : decode cX0_downLow 45 = .ok (.lconst 0, 1) := by decide +kernel
theorem dX0_downLow_46 : decode cX0_downLow 46 = .ok (.lreturn, 1) := by decide +kernel
theorem dX0_downHigh_0 : decode cX0_downHigh 0 = .ok (.iload_n 2, 1) := by decide +kernel
theorem dX0_downHigh_1 : decode cX0_downHigh 1 = .ok (.bipush 64, 2) := by decide +kernel
theorem dX0_downHigh_3 : decode cX0_downHigh 3 = .ok (.if_icmp .ge 9, 3) := by decide +kernel
theorem dX0_downHigh_6 : decode cX0_downHigh 6 = .ok (.lload_n 0, 1) := by decide +kernel
theorem dX0_downHigh_7 : decode cX0_downHigh 7 = .ok (.iload_n 2, 1) := by decide +kernel
theorem dX0_downHigh_8 : decode cX0_downHigh 8 = .ok (.lushr, 1) := by decide +kernel
theorem dX0_downHigh_9 : decode cX0_downHigh 9 = .ok (.goto 4, 3) := by decide +kernel
theorem dX0_downHigh_12 : decode cX0_downHigh 12 = .ok (.lconst 0, 1) := by decide +kernel
theorem dX0_downHigh_13 : decode cX0_downHigh 13 = .ok (.lreturn, 1) := by decide +kernel
set_option maxRecDepth 20000 in
theorem ggX0_indexOfOne_J13_bitCount_95d88 : GoodIn wsX0_indexOfOne wsJ13_bitCount_95d88 := goodIn_r _ [4, 5, 6, 7] (by decide +kernel) (by decide +kernel)
set_option maxRecDepth 20000 in
theorem gX0_indexOfOne_J13_bitCount_95d88 : GoodIn wsX0_indexOfOne (va_wsS RX0 9 yJ13_bitCount_95d88 wsJ13_bitCount_95d88) := goodIn_app (goodIn_of _ (by decide +kernel)) ggX0_indexOfOne_J13_bitCount_95d88
theorem dX0_indexOfOne_0 : decode cX0_indexOfOne 0 = .ok (.lload_n 0, 1) := by decide +kernel
theorem dX0_indexOfOne_1 : decode cX0_indexOfOne 1 = .ok (.lstore_n 3, 1) := by decide +kernel
theorem dX0_indexOfOne_2 : decode cX0_indexOfOne 2 = .ok (.iconst 0, 1) := by decide +kernel
theorem dX0_indexOfOne_3 : decode cX0_indexOfOne 3 = .ok (.istore 5, 2) := by decide +kernel
theorem dX0_indexOfOne_5 : decode cX0_indexOfOne 5 = .ok (.iload 5, 2) := by decide +kernel
theorem dX0_indexOfOne_7 : decode cX0_indexOfOne 7 = .ok (.iload_n 2, 1) := by decide +kernel
theorem dX0_indexOfOne_8 : decode cX0_indexOfOne 8 = .ok (.if_icmp .ge 15, 3) := by decide +kernel
theorem dX0_indexOfOne_11 : decode cX0_indexOfOne 11 = .ok (.lload_n 3, 1) := by decide +kernel
theorem dX0_indexOfOne_12 : decode cX0_indexOfOne 12 = .ok (.lload_n 3, 1) := by decide +kernel
theorem dX0_indexOfOne_13 : decode cX0_indexOfOne 13 = .ok (.lconst 1, 1) := by decide +kernel
theorem dX0_indexOfOne_14 : decode cX0_indexOfOne 14 = .ok (.lsub, 1) := by decide +kernel
theorem dX0_indexOfOne_15 : decode cX0_indexOfOne 15 = .ok (.land, 1) := by decide +kernel
theorem dX0_indexOfOne_16 : decode cX0_indexOfOne 16 = .ok (.lstore_n 3, 1) := by decide +kernel
theorem dX0_indexOfOne_17 : decode cX0_indexOfOne 17 = .ok (.iinc 5 1, 3) := by decide +kernel
theorem dX0_indexOfOne_20 : decode cX0_indexOfOne 20 = .ok (.goto (-15), 3) := by decide +kernel
theorem dX0_indexOfOne_23 : decode cX0_indexOfOne 23 = .ok (.lload_n 3, 1) := by decide +kernel
theorem dX0_indexOfOne_24 : decode cX0_indexOfOne 24 = .ok (.lload_n 3, 1) := by decide +kernel
theorem dX0_indexOfOne_25 : decode cX0_indexOfOne 25 = .ok (.lneg, 1) := by decide +kernel
theorem dX0_indexOfOne_26 : decode cX0_indexOfOne 26 = .ok (.land, 1) := by decide +kernel
theorem dX0_indexOfOne_27 : decode cX0_indexOfOne 27 = .ok (.lconst 1, 1) := by decide +kernel
theorem dX0_indexOfOne_28 : decode cX0_indexOfOne 28 = .ok (.lsub, 1) := by decide +kernel
theorem dX0_indexOfOne_29 : decode cX0_indexOfOne 29 = .ok (.invokestatic 9, 3) := by decide +kernel
theorem dX0_indexOfOne_32 : decode cX0_indexOfOne 32 = .ok (.ireturn, 1) := by decide +kernel
theorem dX1_init_0 : decode cX1_init 0 = .ok (.aload_n 0, 1) := by decide +kernel
theorem dX1_init_1 : decode cX1_init 1 = .ok (.invokespecial 3, 3) := by decide +kernel
theorem dX1_init_4 : decode cX1_init 4 = .ok (.aload_n 0, 1) := by decide +kernel
theorem dX1_init_5 : decode cX1_init 5 = .ok (.bipush 8, 2) := by decide +kernel
theorem dX1_init_7 : decode cX1_init 7 = .ok (.newarray .int, 2) := by decide +kernel
theorem dX1_init_9 : decode cX1_init 9 = .ok (.putfield 9, 3) := by decide +kernel
theorem dX1_init_12 : decode cX1_init 12 = .ok (.aload_n 0, 1) := by decide +kernel
theorem dX1_init_13 : decode cX1_init 13 = .ok (.bipush 8, 2) := by decide +kernel
theorem dX1_init_15 : decode cX1_init 15 = .ok (.newarray .int, 2) := by decide +kernel
theorem dX1_init_17 : decode cX1_init 17 = .ok (.putfield 15, 3) := by decide +kernel
theorem dX1_init_20 : decode cX1_init 20 = .ok (.aload_n 0, 1) := by decide +kernel
theorem dX1_init_21 : decode cX1_init 21 = .ok (.bipush 8, 2) := by decide +kernel
theorem dX1_init_23 : decode cX1_init 23 = .ok (.newarray .int, 2) := by decide +kernel
theorem dX1_init_25 : decode cX1_init 25 = .ok (.putfield 18, 3) := by decide +kernel
theorem dX1_init_28 : decode cX1_init 28 = .ok (.return_, 1) := by decide +kernel
theorem dX1_blocks_0 : decode cX1_blocks 0 = .ok (.aload_n 0, 1) := by decide +kernel
theorem dX1_blocks_1 : decode cX1_blocks 1 = .ok (.getfield 21, 3) := by decide +kernel
theorem dX1_blocks_4 : decode cX1_blocks 4 = .ok (.bipush 16, 2) := by decide +kernel
theorem dX1_blocks_6 : decode cX1_blocks 6 = .ok (.iadd, 1) := by decide +kernel
theorem dX1_blocks_7 : decode cX1_blocks 7 = .ok (.iconst 1, 1) := by decide +kernel
theorem dX1_blocks_8 : decode cX1_blocks 8 = .ok (.isub, 1) := by decide +kernel
theorem dX1_blocks_9 : decode cX1_blocks 9 = .ok (.bipush 16, 2) := by decide +kernel
theorem dX1_blocks_11 : decode cX1_blocks 11 = .ok (.idiv, 1) := by decide +kernel
theorem dX1_blocks_12 : decode cX1_blocks 12 = .ok (.ireturn, 1) := by decide +kernel
theorem dX1_bitAt_0 : decode cX1_bitAt 0 = .ok (.iload_n 1, 1) := by decide +kernel
theorem dX1_bitAt_1 : decode cX1_bitAt 1 = .ok (.bipush 64, 2) := by decide +kernel
theorem dX1_bitAt_3 : decode cX1_bitAt 3 = .ok (.if_icmp .ge 10, 3) := by decide +kernel
theorem dX1_bitAt_6 : decode cX1_bitAt 6 = .ok (.aload_n 0, 1) := by decide +kernel
theorem dX1_bitAt_7 : decode cX1_bitAt 7 = .ok (.getfield 25, 3) := by decide +kernel
theorem dX1_bitAt_10 : decode cX1_bitAt 10 = .ok (.goto 7, 3) := by decide +kernel
theorem dX1_bitAt_13 : decode cX1_bitAt 13 = .ok (.aload_n 0, 1) := by decide +kernel
theorem dX1_bitAt_14 : decode cX1_bitAt 14 = .ok (.getfield 29, 3) := by decide +kernel
theorem dX1_bitAt_17 : decode cX1_bitAt 17 = .ok (.iload_n 1, 1) := by decide +kernel
theorem dX1_bitAt_18 : decode cX1_bitAt 18 = .ok (.bipush 63, 2) := by decide +kernel
theorem dX1_bitAt_20 : decode cX1_bitAt 20 = .ok (.iand, 1) := by decide +kernel
theorem dX1_bitAt_21 : decode cX1_bitAt 21 = .ok (.lushr, 1) := by decide +kernel
theorem dX1_bitAt_22 : decode cX1_bitAt 22 = .ok (.l2i, 1) := by decide +kernel
theorem dX1_bitAt_23 : decode cX1_bitAt 23 = .ok (.iconst 1, 1) := by decide +kernel
theorem dX1_bitAt_24 : decode cX1_bitAt 24 = .ok (.iand, 1) := by decide +kernel
theorem dX1_bitAt_25 : decode cX1_bitAt 25 = .ok (.ireturn, 1) := by decide +kernel
theorem dX1_stepAt_0 : decode cX1_stepAt 0 = .ok (.iload_n 1, 1) := by decide +kernel
theorem dX1_stepAt_1 : decode cX1_stepAt 1 = .ok (.bipush 64, 2) := by decide +kernel
theorem dX1_stepAt_3 : decode cX1_stepAt 3 = .ok (.if_icmp .ge 10, 3) := by decide +kernel
theorem dX1_stepAt_6 : decode cX1_stepAt 6 = .ok (.aload_n 0, 1) := by decide +kernel
theorem dX1_stepAt_7 : decode cX1_stepAt 7 = .ok (.getfield 25, 3) := by decide +kernel
theorem dX1_stepAt_10 : decode cX1_stepAt 10 = .ok (.goto 7, 3) := by decide +kernel
theorem dX1_stepAt_13 : decode cX1_stepAt 13 = .ok (.aload_n 0, 1) := by decide +kernel
theorem dX1_stepAt_14 : decode cX1_stepAt 14 = .ok (.getfield 29, 3) := by decide +kernel
theorem dX1_stepAt_17 : decode cX1_stepAt 17 = .ok (.iload_n 1, 1) := by decide +kernel
theorem dX1_stepAt_18 : decode cX1_stepAt 18 = .ok (.bipush 63, 2) := by decide +kernel
theorem dX1_stepAt_20 : decode cX1_stepAt 20 = .ok (.iand, 1) := by decide +kernel
theorem dX1_stepAt_21 : decode cX1_stepAt 21 = .ok (.lushr, 1) := by decide +kernel
theorem dX1_stepAt_22 : decode cX1_stepAt 22 = .ok (.lconst 1, 1) := by decide +kernel
theorem dX1_stepAt_23 : decode cX1_stepAt 23 = .ok (.land, 1) := by decide +kernel
theorem dX1_stepAt_24 : decode cX1_stepAt 24 = .ok (.lconst 1, 1) := by decide +kernel
theorem dX1_stepAt_25 : decode cX1_stepAt 25 = .ok (.lcmp, 1) := by decide +kernel
theorem dX1_stepAt_26 : decode cX1_stepAt 26 = .ok (.ifCond .ne 7, 3) := by decide +kernel
theorem dX1_stepAt_29 : decode cX1_stepAt 29 = .ok (.iconst 1, 1) := by decide +kernel
theorem dX1_stepAt_30 : decode cX1_stepAt 30 = .ok (.goto 4, 3) := by decide +kernel
theorem dX1_stepAt_33 : decode cX1_stepAt 33 = .ok (.iconst (-1), 1) := by decide +kernel
theorem dX1_stepAt_34 : decode cX1_stepAt 34 = .ok (.ireturn, 1) := by decide +kernel
set_option maxRecDepth 20000 in
theorem ggX1_excessAt_X0_firstOf : GoodIn wsX1_excessAt wsX0_firstOf := goodIn_r _ [6, 7] (by decide +kernel) (by decide +kernel)
set_option maxRecDepth 20000 in
theorem gX1_excessAt_X0_firstOf : GoodIn wsX1_excessAt (va_wsS RX1 32 yX0_firstOf wsX0_firstOf) := goodIn_app (goodIn_of _ (by decide +kernel)) ggX1_excessAt_X0_firstOf
set_option maxRecDepth 20000 in
theorem ggX1_excessAt_J13_bitCount_95d88 : GoodIn wsX1_excessAt wsJ13_bitCount_95d88 := goodIn_r _ [11, 12, 13, 14] (by decide +kernel) (by decide +kernel)
set_option maxRecDepth 20000 in
theorem gX1_excessAt_J13_bitCount_95d88 : GoodIn wsX1_excessAt (va_wsS RX1 38 yJ13_bitCount_95d88 wsJ13_bitCount_95d88) := goodIn_app (goodIn_of _ (by decide +kernel)) ggX1_excessAt_J13_bitCount_95d88
theorem dX1_excessAt_0 : decode cX1_excessAt 0 = .ok (.iconst 2, 1) := by decide +kernel
theorem dX1_excessAt_1 : decode cX1_excessAt 1 = .ok (.aload_n 0, 1) := by decide +kernel
theorem dX1_excessAt_2 : decode cX1_excessAt 2 = .ok (.getfield 25, 3) := by decide +kernel
theorem dX1_excessAt_5 : decode cX1_excessAt 5 = .ok (.iload_n 1, 1) := by decide +kernel
theorem dX1_excessAt_6 : decode cX1_excessAt 6 = .ok (.invokestatic 32, 3) := by decide +kernel
theorem dX1_excessAt_9 : decode cX1_excessAt 9 = .ok (.land, 1) := by decide +kernel
theorem dX1_excessAt_10 : decode cX1_excessAt 10 = .ok (.invokestatic 38, 3) := by decide +kernel
theorem dX1_excessAt_13 : decode cX1_excessAt 13 = .ok (.imul, 1) := by decide +kernel
theorem dX1_excessAt_14 : decode cX1_excessAt 14 = .ok (.iconst 2, 1) := by decide +kernel
theorem dX1_excessAt_15 : decode cX1_excessAt 15 = .ok (.aload_n 0, 1) := by decide +kernel
theorem dX1_excessAt_16 : decode cX1_excessAt 16 = .ok (.getfield 29, 3) := by decide +kernel
theorem dX1_excessAt_19 : decode cX1_excessAt 19 = .ok (.iload_n 1, 1) := by decide +kernel
theorem dX1_excessAt_20 : decode cX1_excessAt 20 = .ok (.bipush 64, 2) := by decide +kernel
theorem dX1_excessAt_22 : decode cX1_excessAt 22 = .ok (.isub, 1) := by decide +kernel
theorem dX1_excessAt_23 : decode cX1_excessAt 23 = .ok (.invokestatic 32, 3) := by decide +kernel
theorem dX1_excessAt_26 : decode cX1_excessAt 26 = .ok (.land, 1) := by decide +kernel
theorem dX1_excessAt_27 : decode cX1_excessAt 27 = .ok (.invokestatic 38, 3) := by decide +kernel
theorem dX1_excessAt_30 : decode cX1_excessAt 30 = .ok (.imul, 1) := by decide +kernel
theorem dX1_excessAt_31 : decode cX1_excessAt 31 = .ok (.iadd, 1) := by decide +kernel
theorem dX1_excessAt_32 : decode cX1_excessAt 32 = .ok (.iload_n 1, 1) := by decide +kernel
theorem dX1_excessAt_33 : decode cX1_excessAt 33 = .ok (.isub, 1) := by decide +kernel
theorem dX1_excessAt_34 : decode cX1_excessAt 34 = .ok (.ireturn, 1) := by decide +kernel
set_option maxRecDepth 20000 in
theorem ggX1_opensAhead_X1_excessAt : GoodIn wsX1_opensAhead wsX1_excessAt := goodIn_r _ [5, 6, 7, 8, 9, 10, 11, 12, 13, 14, 15, 16, 17, 18, 19, 20, 21, 22, 23, 24, 25] (by decide +kernel) (by decide +kernel)
set_option maxRecDepth 20000 in
theorem gX1_opensAhead_X1_excessAt : GoodIn wsX1_opensAhead (wsV RX1 44 RX1 yX1_excessAt wsX1_excessAt) := goodIn_app (goodIn_of _ (by decide +kernel)) ggX1_opensAhead_X1_excessAt
theorem dX1_opensAhead_0 : decode cX1_opensAhead 0 = .ok (.iload_n 1, 1) := by decide +kernel
theorem dX1_opensAhead_1 : decode cX1_opensAhead 1 = .ok (.aload_n 0, 1) := by decide +kernel
theorem dX1_opensAhead_2 : decode cX1_opensAhead 2 = .ok (.iload_n 1, 1) := by decide +kernel
theorem dX1_opensAhead_3 : decode cX1_opensAhead 3 = .ok (.invokevirtual 44, 3) := by decide +kernel
theorem dX1_opensAhead_6 : decode cX1_opensAhead 6 = .ok (.iadd, 1) := by decide +kernel
theorem dX1_opensAhead_7 : decode cX1_opensAhead 7 = .ok (.iconst 2, 1) := by decide +kernel
theorem dX1_opensAhead_8 : decode cX1_opensAhead 8 = .ok (.idiv, 1) := by decide +kernel
theorem dX1_opensAhead_9 : decode cX1_opensAhead 9 = .ok (.ireturn, 1) := by decide +kernel
set_option maxRecDepth 20000 in
theorem ggX1_opensAtOddPlaces_J13_bitCount_95d88 : GoodIn wsX1_opensAtOddPlaces wsJ13_bitCount_95d88 := goodIn_r _ [7, 8, 9, 10] (by decide +kernel) (by decide +kernel)
set_option maxRecDepth 20000 in
theorem gX1_opensAtOddPlaces_J13_bitCount_95d88 : GoodIn wsX1_opensAtOddPlaces (va_wsS RX1 38 yJ13_bitCount_95d88 wsJ13_bitCount_95d88) := goodIn_app (goodIn_of _ (by decide +kernel)) ggX1_opensAtOddPlaces_J13_bitCount_95d88
theorem dX1_opensAtOddPlaces_0 : decode cX1_opensAtOddPlaces 0 = .ok (.ldc2_w 48, 3) := by decide +kernel
theorem dX1_opensAtOddPlaces_3 : decode cX1_opensAtOddPlaces 3 = .ok (.lstore_n 1, 1) := by decide +kernel
theorem dX1_opensAtOddPlaces_4 : decode cX1_opensAtOddPlaces 4 = .ok (.aload_n 0, 1) := by decide +kernel
theorem dX1_opensAtOddPlaces_5 : decode cX1_opensAtOddPlaces 5 = .ok (.getfield 25, 3) := by decide +kernel
theorem dX1_opensAtOddPlaces_8 : decode cX1_opensAtOddPlaces 8 = .ok (.lload_n 1, 1) := by decide +kernel
theorem dX1_opensAtOddPlaces_9 : decode cX1_opensAtOddPlaces 9 = .ok (.land, 1) := by decide +kernel
theorem dX1_opensAtOddPlaces_10 : decode cX1_opensAtOddPlaces 10 = .ok (.invokestatic 38, 3) := by decide +kernel
theorem dX1_opensAtOddPlaces_13 : decode cX1_opensAtOddPlaces 13 = .ok (.aload_n 0, 1) := by decide +kernel
theorem dX1_opensAtOddPlaces_14 : decode cX1_opensAtOddPlaces 14 = .ok (.getfield 29, 3) := by decide +kernel
theorem dX1_opensAtOddPlaces_17 : decode cX1_opensAtOddPlaces 17 = .ok (.lload_n 1, 1) := by decide +kernel
theorem dX1_opensAtOddPlaces_18 : decode cX1_opensAtOddPlaces 18 = .ok (.land, 1) := by decide +kernel
theorem dX1_opensAtOddPlaces_19 : decode cX1_opensAtOddPlaces 19 = .ok (.invokestatic 38, 3) := by decide +kernel
theorem dX1_opensAtOddPlaces_22 : decode cX1_opensAtOddPlaces 22 = .ok (.iadd, 1) := by decide +kernel
theorem dX1_opensAtOddPlaces_23 : decode cX1_opensAtOddPlaces 23 = .ok (.ireturn, 1) := by decide +kernel
set_option maxRecDepth 20000 in
theorem ggX1_signsLow_X0_firstOf : GoodIn wsX1_signsLow wsX0_firstOf := goodIn_r _ [8, 9] (by decide +kernel) (by decide +kernel)
set_option maxRecDepth 20000 in
theorem gX1_signsLow_X0_firstOf : GoodIn wsX1_signsLow (va_wsS RX1 32 yX0_firstOf wsX0_firstOf) := goodIn_app (goodIn_of _ (by decide +kernel)) ggX1_signsLow_X0_firstOf
set_option maxRecDepth 20000 in
theorem ggX1_signsLow_X0_downLow : GoodIn wsX1_signsLow wsX0_downLow := goodIn_r _ [12] (by decide +kernel) (by decide +kernel)
set_option maxRecDepth 20000 in
theorem gX1_signsLow_X0_downLow : GoodIn wsX1_signsLow (va_wsS RX1 52 yX0_downLow wsX0_downLow) := goodIn_app (goodIn_of _ (by decide +kernel)) ggX1_signsLow_X0_downLow
theorem dX1_signsLow_0 : decode cX1_signsLow 0 = .ok (.iload_n 1, 1) := by decide +kernel
theorem dX1_signsLow_1 : decode cX1_signsLow 1 = .ok (.ifCond .ne 8, 3) := by decide +kernel
theorem dX1_signsLow_4 : decode cX1_signsLow 4 = .ok (.aload_n 0, 1) := by decide +kernel
theorem dX1_signsLow_5 : decode cX1_signsLow 5 = .ok (.getfield 25, 3) := by decide +kernel
theorem dX1_signsLow_8 : decode cX1_signsLow 8 = .ok (.lreturn, 1) := by decide +kernel
theorem dX1_signsLow_9 : decode cX1_signsLow 9 = .ok (.iload_n 1, 1) := by decide +kernel
theorem dX1_signsLow_10 : decode cX1_signsLow 10 = .ok (.iconst 1, 1) := by decide +kernel
theorem dX1_signsLow_11 : decode cX1_signsLow 11 = .ok (.if_icmp .ne 22, 3) := by decide +kernel
theorem dX1_signsLow_14 : decode cX1_signsLow 14 = .ok (.aload_n 0, 1) := by decide +kernel
theorem dX1_signsLow_15 : decode cX1_signsLow 15 = .ok (.getfield 25, 3) := by decide +kernel
theorem dX1_signsLow_18 : decode cX1_signsLow 18 = .ok (.ldc2_w 50, 3) := by decide +kernel
theorem dX1_signsLow_21 : decode cX1_signsLow 21 = .ok (.lxor, 1) := by decide +kernel
theorem dX1_signsLow_22 : decode cX1_signsLow 22 = .ok (.aload_n 0, 1) := by decide +kernel
theorem dX1_signsLow_23 : decode cX1_signsLow 23 = .ok (.getfield 21, 3) := by decide +kernel
theorem dX1_signsLow_26 : decode cX1_signsLow 26 = .ok (.invokestatic 32, 3) := by decide +kernel
theorem dX1_signsLow_29 : decode cX1_signsLow 29 = .ok (.land, 1) := by decide +kernel
theorem dX1_signsLow_30 : decode cX1_signsLow 30 = .ok (.goto 24, 3) := by decide +kernel
theorem dX1_signsLow_33 : decode cX1_signsLow 33 = .ok (.aload_n 0, 1) := by decide +kernel
theorem dX1_signsLow_34 : decode cX1_signsLow 34 = .ok (.getfield 25, 3) := by decide +kernel
theorem dX1_signsLow_37 : decode cX1_signsLow 37 = .ok (.aload_n 0, 1) := by decide +kernel
theorem dX1_signsLow_38 : decode cX1_signsLow 38 = .ok (.getfield 25, 3) := by decide +kernel
theorem dX1_signsLow_41 : decode cX1_signsLow 41 = .ok (.aload_n 0, 1) := by decide +kernel
theorem dX1_signsLow_42 : decode cX1_signsLow 42 = .ok (.getfield 29, 3) := by decide +kernel
theorem dX1_signsLow_45 : decode cX1_signsLow 45 = .ok (.iconst 1, 1) := by decide +kernel
theorem dX1_signsLow_46 : decode cX1_signsLow 46 = .ok (.invokestatic 52, 3) := by decide +kernel
theorem dX1_signsLow_49 : decode cX1_signsLow 49 = .ok (.ldc2_w 50, 3) := by decide +kernel
theorem dX1_signsLow_52 : decode cX1_signsLow 52 = .ok (.lxor, 1) := by decide +kernel
theorem dX1_signsLow_53 : decode cX1_signsLow 53 = .ok (.land, 1) := by decide +kernel
theorem dX1_signsLow_54 : decode cX1_signsLow 54 = .ok (.lreturn, 1) := by decide +kernel
set_option maxRecDepth 20000 in
theorem ggX1_signsHigh_X0_firstOf : GoodIn wsX1_signsHigh wsX0_firstOf := goodIn_r _ [7, 8] (by decide +kernel) (by decide +kernel)
set_option maxRecDepth 20000 in
theorem gX1_signsHigh_X0_firstOf : GoodIn wsX1_signsHigh (va_wsS RX1 32 yX0_firstOf wsX0_firstOf) := goodIn_app (goodIn_of _ (by decide +kernel)) ggX1_signsHigh_X0_firstOf
set_option maxRecDepth 20000 in
theorem ggX1_signsHigh_X0_downHigh : GoodIn wsX1_signsHigh wsX0_downHigh := goodIn_r _ [11] (by decide +kernel) (by decide +kernel)
set_option maxRecDepth 20000 in
theorem gX1_signsHigh_X0_downHigh : GoodIn wsX1_signsHigh (va_wsS RX1 56 yX0_downHigh wsX0_downHigh) := goodIn_app (goodIn_of _ (by decide +kernel)) ggX1_signsHigh_X0_downHigh
theorem dX1_signsHigh_0 : decode cX1_signsHigh 0 = .ok (.iload_n 1, 1) := by decide +kernel
theorem dX1_signsHigh_1 : decode cX1_signsHigh 1 = .ok (.ifCond .ne 8, 3) := by decide +kernel
theorem dX1_signsHigh_4 : decode cX1_signsHigh 4 = .ok (.aload_n 0, 1) := by decide +kernel
theorem dX1_signsHigh_5 : decode cX1_signsHigh 5 = .ok (.getfield 29, 3) := by decide +kernel
theorem dX1_signsHigh_8 : decode cX1_signsHigh 8 = .ok (.lreturn, 1) := by decide +kernel
theorem dX1_signsHigh_9 : decode cX1_signsHigh 9 = .ok (.iload_n 1, 1) := by decide +kernel
theorem dX1_signsHigh_10 : decode cX1_signsHigh 10 = .ok (.iconst 1, 1) := by decide +kernel
theorem dX1_signsHigh_11 : decode cX1_signsHigh 11 = .ok (.if_icmp .ne 25, 3) := by decide +kernel
theorem dX1_signsHigh_14 : decode cX1_signsHigh 14 = .ok (.aload_n 0, 1) := by decide +kernel
theorem dX1_signsHigh_15 : decode cX1_signsHigh 15 = .ok (.getfield 29, 3) := by decide +kernel
theorem dX1_signsHigh_18 : decode cX1_signsHigh 18 = .ok (.ldc2_w 50, 3) := by decide +kernel
theorem dX1_signsHigh_21 : decode cX1_signsHigh 21 = .ok (.lxor, 1) := by decide +kernel
theorem dX1_signsHigh_22 : decode cX1_signsHigh 22 = .ok (.aload_n 0, 1) := by decide +kernel
theorem dX1_signsHigh_23 : decode cX1_signsHigh 23 = .ok (.getfield 21, 3) := by decide +kernel
theorem dX1_signsHigh_26 : decode cX1_signsHigh 26 = .ok (.bipush 64, 2) := by decide +kernel
theorem dX1_signsHigh_28 : decode cX1_signsHigh 28 = .ok (.isub, 1) := by decide +kernel
theorem dX1_signsHigh_29 : decode cX1_signsHigh 29 = .ok (.invokestatic 32, 3) := by decide +kernel
theorem dX1_signsHigh_32 : decode cX1_signsHigh 32 = .ok (.land, 1) := by decide +kernel
theorem dX1_signsHigh_33 : decode cX1_signsHigh 33 = .ok (.goto 20, 3) := by decide +kernel
theorem dX1_signsHigh_36 : decode cX1_signsHigh 36 = .ok (.aload_n 0, 1) := by decide +kernel
theorem dX1_signsHigh_37 : decode cX1_signsHigh 37 = .ok (.getfield 29, 3) := by decide +kernel
theorem dX1_signsHigh_40 : decode cX1_signsHigh 40 = .ok (.aload_n 0, 1) := by decide +kernel
theorem dX1_signsHigh_41 : decode cX1_signsHigh 41 = .ok (.getfield 29, 3) := by decide +kernel
theorem dX1_signsHigh_44 : decode cX1_signsHigh 44 = .ok (.iconst 1, 1) := by decide +kernel
theorem dX1_signsHigh_45 : decode cX1_signsHigh 45 = .ok (.invokestatic 56, 3) := by decide +kernel
theorem dX1_signsHigh_48 : decode cX1_signsHigh 48 = .ok (.ldc2_w 50, 3) := by decide +kernel
theorem dX1_signsHigh_51 : decode cX1_signsHigh 51 = .ok (.lxor, 1) := by decide +kernel
theorem dX1_signsHigh_52 : decode cX1_signsHigh 52 = .ok (.land, 1) := by decide +kernel
theorem dX1_signsHigh_53 : decode cX1_signsHigh 53 = .ok (.lreturn, 1) := by decide +kernel
set_option maxRecDepth 20000 in
theorem ggX1_signsAhead_X1_signsLow : GoodIn wsX1_signsAhead wsX1_signsLow := goodIn_r _ [5, 6, 7, 8, 9, 10, 11, 12, 13, 14, 15, 16, 17, 32, 33, 34, 35, 36, 37] (by decide +kernel) (by decide +kernel)
set_option maxRecDepth 20000 in
theorem gX1_signsAhead_X1_signsLow : GoodIn wsX1_signsAhead (wsV RX1 60 RX1 yX1_signsLow wsX1_signsLow) := goodIn_app (goodIn_of _ (by decide +kernel)) ggX1_signsAhead_X1_signsLow
set_option maxRecDepth 20000 in
theorem ggX1_signsAhead_X0_firstOf : GoodIn wsX1_signsAhead wsX0_firstOf := goodIn_r _ [13, 14] (by decide +kernel) (by decide +kernel)
set_option maxRecDepth 20000 in
theorem gX1_signsAhead_X0_firstOf : GoodIn wsX1_signsAhead (va_wsS RX1 32 yX0_firstOf wsX0_firstOf) := goodIn_app (goodIn_of _ (by decide +kernel)) ggX1_signsAhead_X0_firstOf
set_option maxRecDepth 20000 in
theorem ggX1_signsAhead_J13_bitCount_95d88 : GoodIn wsX1_signsAhead wsJ13_bitCount_95d88 := goodIn_r _ [21, 22, 23, 24] (by decide +kernel) (by decide +kernel)
set_option maxRecDepth 20000 in
theorem gX1_signsAhead_J13_bitCount_95d88 : GoodIn wsX1_signsAhead (va_wsS RX1 38 yJ13_bitCount_95d88 wsJ13_bitCount_95d88) := goodIn_app (goodIn_of _ (by decide +kernel)) ggX1_signsAhead_J13_bitCount_95d88
set_option maxRecDepth 20000 in
theorem ggX1_signsAhead_X1_signsHigh : GoodIn wsX1_signsAhead wsX1_signsHigh := goodIn_r _ [28, 9, 7, 8, 10, 11, 12, 13, 14, 29, 30, 31, 32, 33, 34, 35, 36, 37] (by decide +kernel) (by decide +kernel)
set_option maxRecDepth 20000 in
theorem gX1_signsAhead_X1_signsHigh : GoodIn wsX1_signsAhead (wsV RX1 63 RX1 yX1_signsHigh wsX1_signsHigh) := goodIn_app (goodIn_of _ (by decide +kernel)) ggX1_signsAhead_X1_signsHigh
theorem dX1_signsAhead_0 : decode cX1_signsAhead 0 = .ok (.aload_n 0, 1) := by decide +kernel
theorem dX1_signsAhead_1 : decode cX1_signsAhead 1 = .ok (.iload_n 2, 1) := by decide +kernel
theorem dX1_signsAhead_2 : decode cX1_signsAhead 2 = .ok (.invokevirtual 60, 3) := by decide +kernel
theorem dX1_signsAhead_5 : decode cX1_signsAhead 5 = .ok (.iload_n 1, 1) := by decide +kernel
theorem dX1_signsAhead_6 : decode cX1_signsAhead 6 = .ok (.invokestatic 32, 3) := by decide +kernel
theorem dX1_signsAhead_9 : decode cX1_signsAhead 9 = .ok (.land, 1) := by decide +kernel
theorem dX1_signsAhead_10 : decode cX1_signsAhead 10 = .ok (.invokestatic 38, 3) := by decide +kernel
theorem dX1_signsAhead_13 : decode cX1_signsAhead 13 = .ok (.aload_n 0, 1) := by decide +kernel
theorem dX1_signsAhead_14 : decode cX1_signsAhead 14 = .ok (.iload_n 2, 1) := by decide +kernel
theorem dX1_signsAhead_15 : decode cX1_signsAhead 15 = .ok (.invokevirtual 63, 3) := by decide +kernel
theorem dX1_signsAhead_18 : decode cX1_signsAhead 18 = .ok (.iload_n 1, 1) := by decide +kernel
theorem dX1_signsAhead_19 : decode cX1_signsAhead 19 = .ok (.bipush 64, 2) := by decide +kernel
theorem dX1_signsAhead_21 : decode cX1_signsAhead 21 = .ok (.isub, 1) := by decide +kernel
theorem dX1_signsAhead_22 : decode cX1_signsAhead 22 = .ok (.invokestatic 32, 3) := by decide +kernel
theorem dX1_signsAhead_25 : decode cX1_signsAhead 25 = .ok (.land, 1) := by decide +kernel
theorem dX1_signsAhead_26 : decode cX1_signsAhead 26 = .ok (.invokestatic 38, 3) := by decide +kernel
theorem dX1_signsAhead_29 : decode cX1_signsAhead 29 = .ok (.iadd, 1) := by decide +kernel
theorem dX1_signsAhead_30 : decode cX1_signsAhead 30 = .ok (.ireturn, 1) := by decide +kernel
set_option maxRecDepth 20000 in
theorem ggX1_placeOfSign_X1_signsLow : GoodIn wsX1_placeOfSign wsX1_signsLow := goodIn_r _ [5, 6, 7, 8, 9, 10, 11, 12, 13, 14, 15, 16, 17, 36, 37, 38, 39, 40, 41] (by decide +kernel) (by decide +kernel)
set_option maxRecDepth 20000 in
theorem gX1_placeOfSign_X1_signsLow : GoodIn wsX1_placeOfSign (wsV RX1 60 RX1 yX1_signsLow wsX1_signsLow) := goodIn_app (goodIn_of _ (by decide +kernel)) ggX1_placeOfSign_X1_signsLow
set_option maxRecDepth 20000 in
theorem ggX1_placeOfSign_J13_bitCount_95d88 : GoodIn wsX1_placeOfSign wsJ13_bitCount_95d88 := goodIn_r _ [21, 22, 23, 24] (by decide +kernel) (by decide +kernel)
set_option maxRecDepth 20000 in
theorem gX1_placeOfSign_J13_bitCount_95d88 : GoodIn wsX1_placeOfSign (va_wsS RX1 38 yJ13_bitCount_95d88 wsJ13_bitCount_95d88) := goodIn_app (goodIn_of _ (by decide +kernel)) ggX1_placeOfSign_J13_bitCount_95d88
set_option maxRecDepth 20000 in
theorem ggX1_placeOfSign_X0_indexOfOne : GoodIn wsX1_placeOfSign wsX0_indexOfOne := goodIn_r _ [27, 28, 19, 20, 21, 22, 23, 24] (by decide +kernel) (by decide +kernel)
set_option maxRecDepth 20000 in
theorem gX1_placeOfSign_X0_indexOfOne : GoodIn wsX1_placeOfSign (va_wsS RX1 66 yX0_indexOfOne wsX0_indexOfOne) := goodIn_app (goodIn_of _ (by decide +kernel)) ggX1_placeOfSign_X0_indexOfOne
set_option maxRecDepth 20000 in
theorem ggX1_placeOfSign_X1_signsHigh : GoodIn wsX1_placeOfSign wsX1_signsHigh := goodIn_r _ [32, 9, 7, 8, 10, 11, 12, 13, 14, 33, 34, 35, 36, 37, 38, 39, 40, 41] (by decide +kernel) (by decide +kernel)
set_option maxRecDepth 20000 in
theorem gX1_placeOfSign_X1_signsHigh : GoodIn wsX1_placeOfSign (wsV RX1 63 RX1 yX1_signsHigh wsX1_signsHigh) := goodIn_app (goodIn_of _ (by decide +kernel)) ggX1_placeOfSign_X1_signsHigh
theorem dX1_placeOfSign_0 : decode cX1_placeOfSign 0 = .ok (.aload_n 0, 1) := by decide +kernel
theorem dX1_placeOfSign_1 : decode cX1_placeOfSign 1 = .ok (.iload_n 2, 1) := by decide +kernel
theorem dX1_placeOfSign_2 : decode cX1_placeOfSign 2 = .ok (.invokevirtual 60, 3) := by decide +kernel
theorem dX1_placeOfSign_5 : decode cX1_placeOfSign 5 = .ok (.lstore_n 3, 1) := by decide +kernel
theorem dX1_placeOfSign_6 : decode cX1_placeOfSign 6 = .ok (.lload_n 3, 1) := by decide +kernel
theorem dX1_placeOfSign_7 : decode cX1_placeOfSign 7 = .ok (.invokestatic 38, 3) := by decide +kernel
theorem dX1_placeOfSign_10 : decode cX1_placeOfSign 10 = .ok (.istore 5, 2) := by decide +kernel
theorem dX1_placeOfSign_12 : decode cX1_placeOfSign 12 = .ok (.iload_n 1, 1) := by decide +kernel
theorem dX1_placeOfSign_13 : decode cX1_placeOfSign 13 = .ok (.iload 5, 2) := by decide +kernel
theorem dX1_placeOfSign_15 : decode cX1_placeOfSign 15 = .ok (.if_icmp .ge 9, 3) := by decide +kernel
theorem dX1_placeOfSign_18 : decode cX1_placeOfSign 18 = .ok (.lload_n 3, 1) := by decide +kernel
theorem dX1_placeOfSign_19 : decode cX1_placeOfSign 19 = .ok (.iload_n 1, 1) := by decide +kernel
theorem dX1_placeOfSign_20 : decode cX1_placeOfSign 20 = .ok (.invokestatic 66, 3) := by decide +kernel
theorem dX1_placeOfSign_23 : decode cX1_placeOfSign 23 = .ok (.ireturn, 1) := by decide +kernel
theorem dX1_placeOfSign_24 : decode cX1_placeOfSign 24 = .ok (.aload_n 0, 1) := by decide +kernel
theorem dX1_placeOfSign_25 : decode cX1_placeOfSign 25 = .ok (.iload_n 2, 1) := by decide +kernel
theorem dX1_placeOfSign_26 : decode cX1_placeOfSign 26 = .ok (.invokevirtual 63, 3) := by decide +kernel
theorem dX1_placeOfSign_29 : decode cX1_placeOfSign 29 = .ok (.lstore 6, 2) := by decide +kernel
theorem dX1_placeOfSign_31 : decode cX1_placeOfSign 31 = .ok (.iload_n 1, 1) := by decide +kernel
theorem dX1_placeOfSign_32 : decode cX1_placeOfSign 32 = .ok (.iload 5, 2) := by decide +kernel
theorem dX1_placeOfSign_34 : decode cX1_placeOfSign 34 = .ok (.isub, 1) := by decide +kernel
theorem dX1_placeOfSign_35 : decode cX1_placeOfSign 35 = .ok (.istore 8, 2) := by decide +kernel
theorem dX1_placeOfSign_37 : decode cX1_placeOfSign 37 = .ok (.iload 8, 2) := by decide +kernel
theorem dX1_placeOfSign_39 : decode cX1_placeOfSign 39 = .ok (.lload 6, 2) := by decide +kernel
theorem dX1_placeOfSign_41 : decode cX1_placeOfSign 41 = .ok (.invokestatic 38, 3) := by decide +kernel
theorem dX1_placeOfSign_44 : decode cX1_placeOfSign 44 = .ok (.if_icmp .ge 16, 3) := by decide +kernel
theorem dX1_placeOfSign_47 : decode cX1_placeOfSign 47 = .ok (.bipush 64, 2) := by decide +kernel
theorem dX1_placeOfSign_49 : decode cX1_placeOfSign 49 = .ok (.lload 6, 2) := by decide +kernel
theorem dX1_placeOfSign_51 : decode cX1_placeOfSign 51 = .ok (.iload 8, 2) := by decide +kernel
theorem dX1_placeOfSign_53 : decode cX1_placeOfSign 53 = .ok (.invokestatic 66, 3) := by decide +kernel
theorem dX1_placeOfSign_56 : decode cX1_placeOfSign 56 = .ok (.iadd, 1) := by decide +kernel
theorem dX1_placeOfSign_57 : decode cX1_placeOfSign 57 = .ok (.goto 5, 3) := by decide +kernel
theorem dX1_placeOfSign_60 : decode cX1_placeOfSign 60 = .ok (.bipush (-4), 2) := by decide +kernel
theorem dX1_placeOfSign_62 : decode cX1_placeOfSign 62 = .ok (.ireturn, 1) := by decide +kernel
theorem dX1_reaches_0 : decode cX1_reaches 0 = .ok (.aload_n 0, 1) := by decide +kernel
theorem dX1_reaches_1 : decode cX1_reaches 1 = .ok (.getfield 15, 3) := by decide +kernel
theorem dX1_reaches_4 : decode cX1_reaches 4 = .ok (.iload_n 1, 1) := by decide +kernel
theorem dX1_reaches_5 : decode cX1_reaches 5 = .ok (.iaload, 1) := by decide +kernel
theorem dX1_reaches_6 : decode cX1_reaches 6 = .ok (.iload_n 2, 1) := by decide +kernel
theorem dX1_reaches_7 : decode cX1_reaches 7 = .ok (.if_icmp .gt 17, 3) := by decide +kernel
theorem dX1_reaches_10 : decode cX1_reaches 10 = .ok (.iload_n 2, 1) := by decide +kernel
theorem dX1_reaches_11 : decode cX1_reaches 11 = .ok (.aload_n 0, 1) := by decide +kernel
theorem dX1_reaches_12 : decode cX1_reaches 12 = .ok (.getfield 18, 3) := by decide +kernel
theorem dX1_reaches_15 : decode cX1_reaches 15 = .ok (.iload_n 1, 1) := by decide +kernel
theorem dX1_reaches_16 : decode cX1_reaches 16 = .ok (.iaload, 1) := by decide +kernel
theorem dX1_reaches_17 : decode cX1_reaches 17 = .ok (.if_icmp .gt 7, 3) := by decide +kernel
theorem dX1_reaches_20 : decode cX1_reaches 20 = .ok (.iconst 1, 1) := by decide +kernel
theorem dX1_reaches_21 : decode cX1_reaches 21 = .ok (.goto 4, 3) := by decide +kernel
theorem dX1_reaches_24 : decode cX1_reaches 24 = .ok (.iconst 0, 1) := by decide +kernel
theorem dX1_reaches_25 : decode cX1_reaches 25 = .ok (.ireturn, 1) := by decide +kernel
set_option maxRecDepth 20000 in
theorem ggX1_searchOn_X1_excessAt : GoodIn wsX1_searchOn wsX1_excessAt := goodIn_r _ [7, 8, 9, 10, 11, 12, 13, 14, 15, 16, 17, 18, 19, 20, 21, 32, 33, 34, 35, 36, 37] (by decide +kernel) (by decide +kernel)
set_option maxRecDepth 20000 in
theorem gX1_searchOn_X1_excessAt : GoodIn wsX1_searchOn (wsV RX1 44 RX1 yX1_excessAt wsX1_excessAt) := goodIn_app (goodIn_of _ (by decide +kernel)) ggX1_searchOn_X1_excessAt
set_option maxRecDepth 20000 in
theorem ggX1_searchOn_X1_reaches : GoodIn wsX1_searchOn wsX1_reaches := goodIn_r _ [25, 26, 27, 32, 33, 34, 35, 36, 37] (by decide +kernel) (by decide +kernel)
set_option maxRecDepth 20000 in
theorem gX1_searchOn_X1_reaches : GoodIn wsX1_searchOn (wsV RX1 70 RX1 yX1_reaches wsX1_reaches) := goodIn_app (goodIn_of _ (by decide +kernel)) ggX1_searchOn_X1_reaches
set_option maxRecDepth 20000 in
theorem ggX1_searchOn_X1_stepAt : GoodIn wsX1_searchOn wsX1_stepAt := goodIn_r _ [31, 8, 9, 32, 33, 34, 35, 36, 37] (by decide +kernel) (by decide +kernel)
set_option maxRecDepth 20000 in
theorem gX1_searchOn_X1_stepAt : GoodIn wsX1_searchOn (wsV RX1 74 RX1 yX1_stepAt wsX1_stepAt) := goodIn_app (goodIn_of _ (by decide +kernel)) ggX1_searchOn_X1_stepAt
theorem dX1_searchOn_0 : decode cX1_searchOn 0 = .ok (.aload_n 0, 1) := by decide +kernel
theorem dX1_searchOn_1 : decode cX1_searchOn 1 = .ok (.iload_n 1, 1) := by decide +kernel
theorem dX1_searchOn_2 : decode cX1_searchOn 2 = .ok (.invokevirtual 44, 3) := by decide +kernel
theorem dX1_searchOn_5 : decode cX1_searchOn 5 = .ok (.istore_n 3, 1) := by decide +kernel
theorem dX1_searchOn_6 : decode cX1_searchOn 6 = .ok (.iload_n 1, 1) := by decide +kernel
theorem dX1_searchOn_7 : decode cX1_searchOn 7 = .ok (.istore 4, 2) := by decide +kernel
theorem dX1_searchOn_9 : decode cX1_searchOn 9 = .ok (.iload 4, 2) := by decide +kernel
theorem dX1_searchOn_11 : decode cX1_searchOn 11 = .ok (.aload_n 0, 1) := by decide +kernel
theorem dX1_searchOn_12 : decode cX1_searchOn 12 = .ok (.getfield 21, 3) := by decide +kernel
theorem dX1_searchOn_15 : decode cX1_searchOn 15 = .ok (.if_icmp .ge 65, 3) := by decide +kernel
theorem dX1_searchOn_18 : decode cX1_searchOn 18 = .ok (.iload 4, 2) := by decide +kernel
theorem dX1_searchOn_20 : decode cX1_searchOn 20 = .ok (.bipush 16, 2) := by decide +kernel
theorem dX1_searchOn_22 : decode cX1_searchOn 22 = .ok (.irem, 1) := by decide +kernel
theorem dX1_searchOn_23 : decode cX1_searchOn 23 = .ok (.ifCond .ne 37, 3) := by decide +kernel
theorem dX1_searchOn_26 : decode cX1_searchOn 26 = .ok (.aload_n 0, 1) := by decide +kernel
theorem dX1_searchOn_27 : decode cX1_searchOn 27 = .ok (.iload 4, 2) := by decide +kernel
theorem dX1_searchOn_29 : decode cX1_searchOn 29 = .ok (.bipush 16, 2) := by decide +kernel
theorem dX1_searchOn_31 : decode cX1_searchOn 31 = .ok (.idiv, 1) := by decide +kernel
theorem dX1_searchOn_32 : decode cX1_searchOn 32 = .ok (.iload_n 2, 1) := by decide +kernel
theorem dX1_searchOn_33 : decode cX1_searchOn 33 = .ok (.iload_n 3, 1) := by decide +kernel
theorem dX1_searchOn_34 : decode cX1_searchOn 34 = .ok (.isub, 1) := by decide +kernel
theorem dX1_searchOn_35 : decode cX1_searchOn 35 = .ok (.invokevirtual 70, 3) := by decide +kernel
theorem dX1_searchOn_38 : decode cX1_searchOn 38 = .ok (.ifCond .ne 22, 3) := by decide +kernel
theorem dX1_searchOn_41 : decode cX1_searchOn 41 = .ok (.iload_n 3, 1) := by decide +kernel
theorem dX1_searchOn_42 : decode cX1_searchOn 42 = .ok (.aload_n 0, 1) := by decide +kernel
theorem dX1_searchOn_43 : decode cX1_searchOn 43 = .ok (.getfield 9, 3) := by decide +kernel
theorem dX1_searchOn_46 : decode cX1_searchOn 46 = .ok (.iload 4, 2) := by decide +kernel
theorem dX1_searchOn_48 : decode cX1_searchOn 48 = .ok (.bipush 16, 2) := by decide +kernel
theorem dX1_searchOn_50 : decode cX1_searchOn 50 = .ok (.idiv, 1) := by decide +kernel
theorem dX1_searchOn_51 : decode cX1_searchOn 51 = .ok (.iaload, 1) := by decide +kernel
theorem dX1_searchOn_52 : decode cX1_searchOn 52 = .ok (.iadd, 1) := by decide +kernel
theorem dX1_searchOn_53 : decode cX1_searchOn 53 = .ok (.istore_n 3, 1) := by decide +kernel
theorem dX1_searchOn_54 : decode cX1_searchOn 54 = .ok (.iinc 4 16, 3) := by decide +kernel
theorem dX1_searchOn_57 : decode cX1_searchOn 57 = .ok (.goto (-48), 3) := by decide +kernel
theorem dX1_searchOn_60 : decode cX1_searchOn 60 = .ok (.iload_n 3, 1) := by decide +kernel
theorem dX1_searchOn_61 : decode cX1_searchOn 61 = .ok (.aload_n 0, 1) := by decide +kernel
theorem dX1_searchOn_62 : decode cX1_searchOn 62 = .ok (.iload 4, 2) := by decide +kernel
theorem dX1_searchOn_64 : decode cX1_searchOn 64 = .ok (.invokevirtual 74, 3) := by decide +kernel
theorem dX1_searchOn_67 : decode cX1_searchOn 67 = .ok (.iadd, 1) := by decide +kernel
theorem dX1_searchOn_68 : decode cX1_searchOn 68 = .ok (.istore_n 3, 1) := by decide +kernel
theorem dX1_searchOn_69 : decode cX1_searchOn 69 = .ok (.iinc 4 1, 3) := by decide +kernel
theorem dX1_searchOn_72 : decode cX1_searchOn 72 = .ok (.iload_n 3, 1) := by decide +kernel
theorem dX1_searchOn_73 : decode cX1_searchOn 73 = .ok (.iload_n 2, 1) := by decide +kernel
theorem dX1_searchOn_74 : decode cX1_searchOn 74 = .ok (.if_icmp .ne (-65), 3) := by decide +kernel
theorem dX1_searchOn_77 : decode cX1_searchOn 77 = .ok (.iload 4, 2) := by decide +kernel
theorem dX1_searchOn_79 : decode cX1_searchOn 79 = .ok (.ireturn, 1) := by decide +kernel
theorem dX1_searchOn_80 : decode cX1_searchOn 80 = .ok (.bipush (-4), 2) := by decide +kernel
theorem dX1_searchOn_82 : decode cX1_searchOn 82 = .ok (.ireturn, 1) := by decide +kernel
set_option maxRecDepth 20000 in
theorem ggX1_searchBack_X1_excessAt : GoodIn wsX1_searchBack wsX1_excessAt := goodIn_r _ [6, 7, 8, 9, 10, 11, 12, 13, 14, 15, 16, 17, 18, 19, 20, 31, 32, 33, 34, 35, 36] (by decide +kernel) (by decide +kernel)
set_option maxRecDepth 20000 in
theorem gX1_searchBack_X1_excessAt : GoodIn wsX1_searchBack (wsV RX1 44 RX1 yX1_excessAt wsX1_excessAt) := goodIn_app (goodIn_of _ (by decide +kernel)) ggX1_searchBack_X1_excessAt
set_option maxRecDepth 20000 in
theorem ggX1_searchBack_X1_stepAt : GoodIn wsX1_searchBack wsX1_stepAt := goodIn_r _ [24, 7, 8, 31, 32, 33, 34, 35, 36] (by decide +kernel) (by decide +kernel)
set_option maxRecDepth 20000 in
theorem gX1_searchBack_X1_stepAt : GoodIn wsX1_searchBack (wsV RX1 74 RX1 yX1_stepAt wsX1_stepAt) := goodIn_app (goodIn_of _ (by decide +kernel)) ggX1_searchBack_X1_stepAt
set_option maxRecDepth 20000 in
theorem ggX1_searchBack_X1_reaches : GoodIn wsX1_searchBack wsX1_reaches := goodIn_r _ [28, 29, 30, 31, 32, 33, 34, 35, 36] (by decide +kernel) (by decide +kernel)
set_option maxRecDepth 20000 in
theorem gX1_searchBack_X1_reaches : GoodIn wsX1_searchBack (wsV RX1 70 RX1 yX1_reaches wsX1_reaches) := goodIn_app (goodIn_of _ (by decide +kernel)) ggX1_searchBack_X1_reaches
theorem dX1_searchBack_0 : decode cX1_searchBack 0 = .ok (.aload_n 0, 1) := by decide +kernel
theorem dX1_searchBack_1 : decode cX1_searchBack 1 = .ok (.iload_n 1, 1) := by decide +kernel
theorem dX1_searchBack_2 : decode cX1_searchBack 2 = .ok (.invokevirtual 44, 3) := by decide +kernel
theorem dX1_searchBack_5 : decode cX1_searchBack 5 = .ok (.istore_n 3, 1) := by decide +kernel
theorem dX1_searchBack_6 : decode cX1_searchBack 6 = .ok (.iload_n 1, 1) := by decide +kernel
theorem dX1_searchBack_7 : decode cX1_searchBack 7 = .ok (.istore 4, 2) := by decide +kernel
theorem dX1_searchBack_9 : decode cX1_searchBack 9 = .ok (.iload 4, 2) := by decide +kernel
theorem dX1_searchBack_11 : decode cX1_searchBack 11 = .ok (.ifCond .le 87, 3) := by decide +kernel
theorem dX1_searchBack_14 : decode cX1_searchBack 14 = .ok (.iinc 4 (-1), 3) := by decide +kernel
theorem dX1_searchBack_17 : decode cX1_searchBack 17 = .ok (.iload_n 3, 1) := by decide +kernel
theorem dX1_searchBack_18 : decode cX1_searchBack 18 = .ok (.aload_n 0, 1) := by decide +kernel
theorem dX1_searchBack_19 : decode cX1_searchBack 19 = .ok (.iload 4, 2) := by decide +kernel
theorem dX1_searchBack_21 : decode cX1_searchBack 21 = .ok (.invokevirtual 74, 3) := by decide +kernel
theorem dX1_searchBack_24 : decode cX1_searchBack 24 = .ok (.isub, 1) := by decide +kernel
theorem dX1_searchBack_25 : decode cX1_searchBack 25 = .ok (.istore_n 3, 1) := by decide +kernel
theorem dX1_searchBack_26 : decode cX1_searchBack 26 = .ok (.iload 4, 2) := by decide +kernel
theorem dX1_searchBack_28 : decode cX1_searchBack 28 = .ok (.bipush 16, 2) := by decide +kernel
theorem dX1_searchBack_30 : decode cX1_searchBack 30 = .ok (.if_icmp .lt 60, 3) := by decide +kernel
theorem dX1_searchBack_33 : decode cX1_searchBack 33 = .ok (.iload 4, 2) := by decide +kernel
theorem dX1_searchBack_35 : decode cX1_searchBack 35 = .ok (.bipush 16, 2) := by decide +kernel
theorem dX1_searchBack_37 : decode cX1_searchBack 37 = .ok (.irem, 1) := by decide +kernel
theorem dX1_searchBack_38 : decode cX1_searchBack 38 = .ok (.ifCond .ne 52, 3) := by decide +kernel
theorem dX1_searchBack_41 : decode cX1_searchBack 41 = .ok (.aload_n 0, 1) := by decide +kernel
theorem dX1_searchBack_42 : decode cX1_searchBack 42 = .ok (.iload 4, 2) := by decide +kernel
theorem dX1_searchBack_44 : decode cX1_searchBack 44 = .ok (.bipush 16, 2) := by decide +kernel
theorem dX1_searchBack_46 : decode cX1_searchBack 46 = .ok (.idiv, 1) := by decide +kernel
theorem dX1_searchBack_47 : decode cX1_searchBack 47 = .ok (.iconst 1, 1) := by decide +kernel
theorem dX1_searchBack_48 : decode cX1_searchBack 48 = .ok (.isub, 1) := by decide +kernel
theorem dX1_searchBack_49 : decode cX1_searchBack 49 = .ok (.iload_n 2, 1) := by decide +kernel
theorem dX1_searchBack_50 : decode cX1_searchBack 50 = .ok (.iload_n 3, 1) := by decide +kernel
theorem dX1_searchBack_51 : decode cX1_searchBack 51 = .ok (.isub, 1) := by decide +kernel
theorem dX1_searchBack_52 : decode cX1_searchBack 52 = .ok (.aload_n 0, 1) := by decide +kernel
theorem dX1_searchBack_53 : decode cX1_searchBack 53 = .ok (.getfield 9, 3) := by decide +kernel
theorem dX1_searchBack_56 : decode cX1_searchBack 56 = .ok (.iload 4, 2) := by decide +kernel
theorem dX1_searchBack_58 : decode cX1_searchBack 58 = .ok (.bipush 16, 2) := by decide +kernel
theorem dX1_searchBack_60 : decode cX1_searchBack 60 = .ok (.idiv, 1) := by decide +kernel
theorem dX1_searchBack_61 : decode cX1_searchBack 61 = .ok (.iconst 1, 1) := by decide +kernel
theorem dX1_searchBack_62 : decode cX1_searchBack 62 = .ok (.isub, 1) := by decide +kernel
theorem dX1_searchBack_63 : decode cX1_searchBack 63 = .ok (.iaload, 1) := by decide +kernel
theorem dX1_searchBack_64 : decode cX1_searchBack 64 = .ok (.iadd, 1) := by decide +kernel
theorem dX1_searchBack_65 : decode cX1_searchBack 65 = .ok (.invokevirtual 70, 3) := by decide +kernel
theorem dX1_searchBack_68 : decode cX1_searchBack 68 = .ok (.ifCond .ne 22, 3) := by decide +kernel
theorem dX1_searchBack_71 : decode cX1_searchBack 71 = .ok (.iinc 4 (-16), 3) := by decide +kernel
theorem dX1_searchBack_74 : decode cX1_searchBack 74 = .ok (.iload_n 3, 1) := by decide +kernel
theorem dX1_searchBack_75 : decode cX1_searchBack 75 = .ok (.aload_n 0, 1) := by decide +kernel
theorem dX1_searchBack_76 : decode cX1_searchBack 76 = .ok (.getfield 9, 3) := by decide +kernel
theorem dX1_searchBack_79 : decode cX1_searchBack 79 = .ok (.iload 4, 2) := by decide +kernel
theorem dX1_searchBack_81 : decode cX1_searchBack 81 = .ok (.bipush 16, 2) := by decide +kernel
theorem dX1_searchBack_83 : decode cX1_searchBack 83 = .ok (.idiv, 1) := by decide +kernel
theorem dX1_searchBack_84 : decode cX1_searchBack 84 = .ok (.iaload, 1) := by decide +kernel
theorem dX1_searchBack_85 : decode cX1_searchBack 85 = .ok (.isub, 1) := by decide +kernel
theorem dX1_searchBack_86 : decode cX1_searchBack 86 = .ok (.istore_n 3, 1) := by decide +kernel
theorem dX1_searchBack_87 : decode cX1_searchBack 87 = .ok (.goto (-61), 3) := by decide +kernel
theorem dX1_searchBack_90 : decode cX1_searchBack 90 = .ok (.iload_n 3, 1) := by decide +kernel
theorem dX1_searchBack_91 : decode cX1_searchBack 91 = .ok (.iload_n 2, 1) := by decide +kernel
theorem dX1_searchBack_92 : decode cX1_searchBack 92 = .ok (.if_icmp .ne (-83), 3) := by decide +kernel
theorem dX1_searchBack_95 : decode cX1_searchBack 95 = .ok (.iload 4, 2) := by decide +kernel
theorem dX1_searchBack_97 : decode cX1_searchBack 97 = .ok (.ireturn, 1) := by decide +kernel
theorem dX1_searchBack_98 : decode cX1_searchBack 98 = .ok (.bipush (-4), 2) := by decide +kernel
theorem dX1_searchBack_100 : decode cX1_searchBack 100 = .ok (.ireturn, 1) := by decide +kernel
set_option maxRecDepth 20000 in
theorem ggX1_partnerOf_X1_bitAt : GoodIn wsX1_partnerOf wsX1_bitAt := goodIn_r _ [5, 6, 7, 44, 45, 46, 47, 48, 49] (by decide +kernel) (by decide +kernel)
set_option maxRecDepth 20000 in
theorem gX1_partnerOf_X1_bitAt : GoodIn wsX1_partnerOf (wsV RX1 77 RX1 yX1_bitAt wsX1_bitAt) := goodIn_app (goodIn_of _ (by decide +kernel)) ggX1_partnerOf_X1_bitAt
set_option maxRecDepth 20000 in
theorem ggX1_partnerOf_X1_excessAt : GoodIn wsX1_partnerOf wsX1_excessAt := goodIn_r _ [11, 6, 7, 12, 13, 14, 15, 16, 17, 18, 19, 20, 21, 22, 23, 44, 45, 46, 47, 48, 49] (by decide +kernel) (by decide +kernel)
set_option maxRecDepth 20000 in
theorem gX1_partnerOf_X1_excessAt : GoodIn wsX1_partnerOf (wsV RX1 44 RX1 yX1_excessAt wsX1_excessAt) := goodIn_app (goodIn_of _ (by decide +kernel)) ggX1_partnerOf_X1_excessAt
set_option maxRecDepth 20000 in
theorem ggX1_partnerOf_X1_searchOn : GoodIn wsX1_partnerOf wsX1_searchOn := goodIn_r _ [27, 28, 29, 8, 9, 10, 4, 11, 6, 7, 12, 13, 14, 15, 16, 17, 18, 19, 20, 21, 22, 23, 30, 31, 32, 33, 34, 35, 36, 37, 38, 39, 44, 45, 46, 47, 48, 49] (by decide +kernel) (by decide +kernel)
set_option maxRecDepth 20000 in
theorem gX1_partnerOf_X1_searchOn : GoodIn wsX1_partnerOf (wsV RX1 80 RX1 yX1_searchOn wsX1_searchOn) := goodIn_app (goodIn_of _ (by decide +kernel)) ggX1_partnerOf_X1_searchOn
set_option maxRecDepth 20000 in
theorem ggX1_partnerOf_X1_searchBack : GoodIn wsX1_partnerOf wsX1_searchBack := goodIn_r _ [43, 29, 8, 9, 10, 4, 11, 6, 7, 12, 13, 14, 15, 16, 17, 18, 19, 20, 21, 22, 23, 36, 37, 38, 39, 30, 31, 32, 33, 34, 35, 44, 45, 46, 47, 48, 49] (by decide +kernel) (by decide +kernel)
set_option maxRecDepth 20000 in
theorem gX1_partnerOf_X1_searchBack : GoodIn wsX1_partnerOf (wsV RX1 84 RX1 yX1_searchBack wsX1_searchBack) := goodIn_app (goodIn_of _ (by decide +kernel)) ggX1_partnerOf_X1_searchBack
theorem dX1_partnerOf_0 : decode cX1_partnerOf 0 = .ok (.aload_n 0, 1) := by decide +kernel
theorem dX1_partnerOf_1 : decode cX1_partnerOf 1 = .ok (.iload_n 1, 1) := by decide +kernel
theorem dX1_partnerOf_2 : decode cX1_partnerOf 2 = .ok (.invokevirtual 77, 3) := by decide +kernel
theorem dX1_partnerOf_5 : decode cX1_partnerOf 5 = .ok (.iconst 1, 1) := by decide +kernel
theorem dX1_partnerOf_6 : decode cX1_partnerOf 6 = .ok (.if_icmp .ne 16, 3) := by decide +kernel
theorem dX1_partnerOf_9 : decode cX1_partnerOf 9 = .ok (.aload_n 0, 1) := by decide +kernel
theorem dX1_partnerOf_10 : decode cX1_partnerOf 10 = .ok (.iload_n 1, 1) := by decide +kernel
theorem dX1_partnerOf_11 : decode cX1_partnerOf 11 = .ok (.aload_n 0, 1) := by decide +kernel
theorem dX1_partnerOf_12 : decode cX1_partnerOf 12 = .ok (.iload_n 1, 1) := by decide +kernel
theorem dX1_partnerOf_13 : decode cX1_partnerOf 13 = .ok (.invokevirtual 44, 3) := by decide +kernel
theorem dX1_partnerOf_16 : decode cX1_partnerOf 16 = .ok (.invokevirtual 80, 3) := by decide +kernel
theorem dX1_partnerOf_19 : decode cX1_partnerOf 19 = .ok (.iconst 1, 1) := by decide +kernel
theorem dX1_partnerOf_20 : decode cX1_partnerOf 20 = .ok (.isub, 1) := by decide +kernel
theorem dX1_partnerOf_21 : decode cX1_partnerOf 21 = .ok (.ireturn, 1) := by decide +kernel
theorem dX1_partnerOf_22 : decode cX1_partnerOf 22 = .ok (.aload_n 0, 1) := by decide +kernel
theorem dX1_partnerOf_23 : decode cX1_partnerOf 23 = .ok (.iload_n 1, 1) := by decide +kernel
theorem dX1_partnerOf_24 : decode cX1_partnerOf 24 = .ok (.aload_n 0, 1) := by decide +kernel
theorem dX1_partnerOf_25 : decode cX1_partnerOf 25 = .ok (.iload_n 1, 1) := by decide +kernel
theorem dX1_partnerOf_26 : decode cX1_partnerOf 26 = .ok (.iconst 1, 1) := by decide +kernel
theorem dX1_partnerOf_27 : decode cX1_partnerOf 27 = .ok (.iadd, 1) := by decide +kernel
theorem dX1_partnerOf_28 : decode cX1_partnerOf 28 = .ok (.invokevirtual 44, 3) := by decide +kernel
theorem dX1_partnerOf_31 : decode cX1_partnerOf 31 = .ok (.invokevirtual 84, 3) := by decide +kernel
theorem dX1_partnerOf_34 : decode cX1_partnerOf 34 = .ok (.ireturn, 1) := by decide +kernel
set_option maxRecDepth 20000 in
theorem ggX1_extremeIn_X1_excessAt : GoodIn wsX1_extremeIn wsX1_excessAt := goodIn_r _ [15, 16, 17, 18, 19, 20, 21, 22, 23, 24, 25, 26, 27, 28, 29, 34, 35, 36, 37, 38, 39] (by decide +kernel) (by decide +kernel)
set_option maxRecDepth 20000 in
theorem gX1_extremeIn_X1_excessAt : GoodIn wsX1_extremeIn (wsV RX1 44 RX1 yX1_excessAt wsX1_excessAt) := goodIn_app (goodIn_of _ (by decide +kernel)) ggX1_extremeIn_X1_excessAt
set_option maxRecDepth 20000 in
theorem ggX1_extremeIn_X1_stepAt : GoodIn wsX1_extremeIn wsX1_stepAt := goodIn_r _ [33, 16, 17, 34, 35, 36, 37, 38, 39] (by decide +kernel) (by decide +kernel)
set_option maxRecDepth 20000 in
theorem gX1_extremeIn_X1_stepAt : GoodIn wsX1_extremeIn (wsV RX1 74 RX1 yX1_stepAt wsX1_stepAt) := goodIn_app (goodIn_of _ (by decide +kernel)) ggX1_extremeIn_X1_stepAt
theorem dX1_extremeIn_0 : decode cX1_extremeIn 0 = .ok (.aload_n 0, 1) := by decide +kernel
theorem dX1_extremeIn_1 : decode cX1_extremeIn 1 = .ok (.iload_n 1, 1) := by decide +kernel
theorem dX1_extremeIn_2 : decode cX1_extremeIn 2 = .ok (.invokevirtual 44, 3) := by decide +kernel
theorem dX1_extremeIn_5 : decode cX1_extremeIn 5 = .ok (.istore 4, 2) := by decide +kernel
theorem dX1_extremeIn_7 : decode cX1_extremeIn 7 = .ok (.iload 4, 2) := by decide +kernel
theorem dX1_extremeIn_9 : decode cX1_extremeIn 9 = .ok (.istore 5, 2) := by decide +kernel
theorem dX1_extremeIn_11 : decode cX1_extremeIn 11 = .ok (.iload_n 1, 1) := by decide +kernel
theorem dX1_extremeIn_12 : decode cX1_extremeIn 12 = .ok (.istore 6, 2) := by decide +kernel
theorem dX1_extremeIn_14 : decode cX1_extremeIn 14 = .ok (.iload 6, 2) := by decide +kernel
theorem dX1_extremeIn_16 : decode cX1_extremeIn 16 = .ok (.iload_n 2, 1) := by decide +kernel
theorem dX1_extremeIn_17 : decode cX1_extremeIn 17 = .ok (.if_icmp .ge 115, 3) := by decide +kernel
theorem dX1_extremeIn_20 : decode cX1_extremeIn 20 = .ok (.iload 6, 2) := by decide +kernel
theorem dX1_extremeIn_22 : decode cX1_extremeIn 22 = .ok (.bipush 16, 2) := by decide +kernel
theorem dX1_extremeIn_24 : decode cX1_extremeIn 24 = .ok (.irem, 1) := by decide +kernel
theorem dX1_extremeIn_25 : decode cX1_extremeIn 25 = .ok (.ifCond .ne 63, 3) := by decide +kernel
theorem dX1_extremeIn_28 : decode cX1_extremeIn 28 = .ok (.iload 6, 2) := by decide +kernel
theorem dX1_extremeIn_30 : decode cX1_extremeIn 30 = .ok (.bipush 16, 2) := by decide +kernel
theorem dX1_extremeIn_32 : decode cX1_extremeIn 32 = .ok (.iadd, 1) := by decide +kernel
theorem dX1_extremeIn_33 : decode cX1_extremeIn 33 = .ok (.iload_n 2, 1) := by decide +kernel
theorem dX1_extremeIn_34 : decode cX1_extremeIn 34 = .ok (.if_icmp .gt 54, 3) := by decide +kernel
theorem dX1_extremeIn_37 : decode cX1_extremeIn 37 = .ok (.iload 6, 2) := by decide +kernel
theorem dX1_extremeIn_39 : decode cX1_extremeIn 39 = .ok (.bipush 16, 2) := by decide +kernel
theorem dX1_extremeIn_41 : decode cX1_extremeIn 41 = .ok (.idiv, 1) := by decide +kernel
theorem dX1_extremeIn_42 : decode cX1_extremeIn 42 = .ok (.istore 8, 2) := by decide +kernel
theorem dX1_extremeIn_44 : decode cX1_extremeIn 44 = .ok (.iload 4, 2) := by decide +kernel
theorem dX1_extremeIn_46 : decode cX1_extremeIn 46 = .ok (.iload_n 3, 1) := by decide +kernel
theorem dX1_extremeIn_47 : decode cX1_extremeIn 47 = .ok (.ifCond .eq 13, 3) := by decide +kernel
theorem dX1_extremeIn_50 : decode cX1_extremeIn 50 = .ok (.aload_n 0, 1) := by decide +kernel
theorem dX1_extremeIn_51 : decode cX1_extremeIn 51 = .ok (.getfield 18, 3) := by decide +kernel
theorem dX1_extremeIn_54 : decode cX1_extremeIn 54 = .ok (.iload 8, 2) := by decide +kernel
theorem dX1_extremeIn_56 : decode cX1_extremeIn 56 = .ok (.iaload, 1) := by decide +kernel
theorem dX1_extremeIn_57 : decode cX1_extremeIn 57 = .ok (.goto 10, 3) := by decide +kernel
theorem dX1_extremeIn_60 : decode cX1_extremeIn 60 = .ok (.aload_n 0, 1) := by decide +kernel
theorem dX1_extremeIn_61 : decode cX1_extremeIn 61 = .ok (.getfield 15, 3) := by decide +kernel
theorem dX1_extremeIn_64 : decode cX1_extremeIn 64 = .ok (.iload 8, 2) := by decide +kernel
theorem dX1_extremeIn_66 : decode cX1_extremeIn 66 = .ok (.iaload, 1) := by decide +kernel
theorem dX1_extremeIn_67 : decode cX1_extremeIn 67 = .ok (.iadd, 1) := by decide +kernel
theorem dX1_extremeIn_68 : decode cX1_extremeIn 68 = .ok (.istore 7, 2) := by decide +kernel
theorem dX1_extremeIn_70 : decode cX1_extremeIn 70 = .ok (.iload 4, 2) := by decide +kernel
theorem dX1_extremeIn_72 : decode cX1_extremeIn 72 = .ok (.aload_n 0, 1) := by decide +kernel
theorem dX1_extremeIn_73 : decode cX1_extremeIn 73 = .ok (.getfield 9, 3) := by decide +kernel
theorem dX1_extremeIn_76 : decode cX1_extremeIn 76 = .ok (.iload 8, 2) := by decide +kernel
theorem dX1_extremeIn_78 : decode cX1_extremeIn 78 = .ok (.iaload, 1) := by decide +kernel
theorem dX1_extremeIn_79 : decode cX1_extremeIn 79 = .ok (.iadd, 1) := by decide +kernel
theorem dX1_extremeIn_80 : decode cX1_extremeIn 80 = .ok (.istore 4, 2) := by decide +kernel
theorem dX1_extremeIn_82 : decode cX1_extremeIn 82 = .ok (.iinc 6 16, 3) := by decide +kernel
theorem dX1_extremeIn_85 : decode cX1_extremeIn 85 = .ok (.goto 21, 3) := by decide +kernel
theorem dX1_extremeIn_88 : decode cX1_extremeIn 88 = .ok (.iload 4, 2) := by decide +kernel
theorem dX1_extremeIn_90 : decode cX1_extremeIn 90 = .ok (.aload_n 0, 1) := by decide +kernel
theorem dX1_extremeIn_91 : decode cX1_extremeIn 91 = .ok (.iload 6, 2) := by decide +kernel
theorem dX1_extremeIn_93 : decode cX1_extremeIn 93 = .ok (.invokevirtual 74, 3) := by decide +kernel
theorem dX1_extremeIn_96 : decode cX1_extremeIn 96 = .ok (.iadd, 1) := by decide +kernel
theorem dX1_extremeIn_97 : decode cX1_extremeIn 97 = .ok (.istore 4, 2) := by decide +kernel
theorem dX1_extremeIn_99 : decode cX1_extremeIn 99 = .ok (.iload 4, 2) := by decide +kernel
theorem dX1_extremeIn_101 : decode cX1_extremeIn 101 = .ok (.istore 7, 2) := by decide +kernel
theorem dX1_extremeIn_103 : decode cX1_extremeIn 103 = .ok (.iinc 6 1, 3) := by decide +kernel
theorem dX1_extremeIn_106 : decode cX1_extremeIn 106 = .ok (.iload_n 3, 1) := by decide +kernel
theorem dX1_extremeIn_107 : decode cX1_extremeIn 107 = .ok (.ifCond .eq 13, 3) := by decide +kernel
theorem dX1_extremeIn_110 : decode cX1_extremeIn 110 = .ok (.iload 5, 2) := by decide +kernel
theorem dX1_extremeIn_112 : decode cX1_extremeIn 112 = .ok (.iload 7, 2) := by decide +kernel
theorem dX1_extremeIn_114 : decode cX1_extremeIn 114 = .ok (.invokestatic 87, 3) := by decide +kernel
theorem dX1_extremeIn_117 : decode cX1_extremeIn 117 = .ok (.goto 10, 3) := by decide +kernel
theorem dX1_extremeIn_120 : decode cX1_extremeIn 120 = .ok (.iload 5, 2) := by decide +kernel
theorem dX1_extremeIn_122 : decode cX1_extremeIn 122 = .ok (.iload 7, 2) := by decide +kernel
theorem dX1_extremeIn_124 : decode cX1_extremeIn 124 = .ok (.invokestatic 92, 3) := by decide +kernel
theorem dX1_extremeIn_127 : decode cX1_extremeIn 127 = .ok (.istore 5, 2) := by decide +kernel
theorem dX1_extremeIn_129 : decode cX1_extremeIn 129 = .ok (.goto (-115), 3) := by decide +kernel
theorem dX1_extremeIn_132 : decode cX1_extremeIn 132 = .ok (.iload 5, 2) := by decide +kernel
theorem dX1_extremeIn_134 : decode cX1_extremeIn 134 = .ok (.ireturn, 1) := by decide +kernel
set_option maxRecDepth 20000 in
theorem ggX1_firstWith_X1_excessAt : GoodIn wsX1_firstWith wsX1_excessAt := goodIn_r _ [5, 6, 7, 8, 9, 10, 11, 12, 13, 14, 15, 16, 17, 18, 19, 36, 37, 38, 39, 40, 41] (by decide +kernel) (by decide +kernel)
set_option maxRecDepth 20000 in
theorem gX1_firstWith_X1_excessAt : GoodIn wsX1_firstWith (wsV RX1 44 RX1 yX1_excessAt wsX1_excessAt) := goodIn_app (goodIn_of _ (by decide +kernel)) ggX1_firstWith_X1_excessAt
set_option maxRecDepth 20000 in
theorem ggX1_firstWith_X1_searchOn : GoodIn wsX1_firstWith wsX1_searchOn := goodIn_r _ [23, 24, 25, 1, 2, 3, 4, 5, 6, 7, 8, 9, 10, 11, 12, 13, 14, 15, 16, 17, 18, 19, 26, 27, 28, 29, 30, 31, 32, 33, 34, 35, 36, 37, 38, 39, 40, 41] (by decide +kernel) (by decide +kernel)
set_option maxRecDepth 20000 in
theorem gX1_firstWith_X1_searchOn : GoodIn wsX1_firstWith (wsV RX1 80 RX1 yX1_searchOn wsX1_searchOn) := goodIn_app (goodIn_of _ (by decide +kernel)) ggX1_firstWith_X1_searchOn
theorem dX1_firstWith_0 : decode cX1_firstWith 0 = .ok (.aload_n 0, 1) := by decide +kernel
theorem dX1_firstWith_1 : decode cX1_firstWith 1 = .ok (.iload_n 1, 1) := by decide +kernel
theorem dX1_firstWith_2 : decode cX1_firstWith 2 = .ok (.invokevirtual 44, 3) := by decide +kernel
theorem dX1_firstWith_5 : decode cX1_firstWith 5 = .ok (.iload_n 2, 1) := by decide +kernel
theorem dX1_firstWith_6 : decode cX1_firstWith 6 = .ok (.if_icmp .ne 7, 3) := by decide +kernel
theorem dX1_firstWith_9 : decode cX1_firstWith 9 = .ok (.iload_n 1, 1) := by decide +kernel
theorem dX1_firstWith_10 : decode cX1_firstWith 10 = .ok (.goto 9, 3) := by decide +kernel
theorem dX1_firstWith_13 : decode cX1_firstWith 13 = .ok (.aload_n 0, 1) := by decide +kernel
theorem dX1_firstWith_14 : decode cX1_firstWith 14 = .ok (.iload_n 1, 1) := by decide +kernel
theorem dX1_firstWith_15 : decode cX1_firstWith 15 = .ok (.iload_n 2, 1) := by decide +kernel
theorem dX1_firstWith_16 : decode cX1_firstWith 16 = .ok (.invokevirtual 80, 3) := by decide +kernel
theorem dX1_firstWith_19 : decode cX1_firstWith 19 = .ok (.ireturn, 1) := by decide +kernel
set_option maxRecDepth 20000 in
theorem ggX1_pointsWith_X1_excessAt : GoodIn wsX1_pointsWith wsX1_excessAt := goodIn_r _ [5, 6, 7, 8, 9, 10, 11, 12, 13, 14, 15, 16, 17, 18, 19, 24, 25, 26, 27, 28, 29] (by decide +kernel) (by decide +kernel)
set_option maxRecDepth 20000 in
theorem gX1_pointsWith_X1_excessAt : GoodIn wsX1_pointsWith (wsV RX1 44 RX1 yX1_excessAt wsX1_excessAt) := goodIn_app (goodIn_of _ (by decide +kernel)) ggX1_pointsWith_X1_excessAt
set_option maxRecDepth 20000 in
theorem ggX1_pointsWith_X1_stepAt : GoodIn wsX1_pointsWith wsX1_stepAt := goodIn_r _ [23, 6, 7, 24, 25, 26, 27, 28, 29] (by decide +kernel) (by decide +kernel)
set_option maxRecDepth 20000 in
theorem gX1_pointsWith_X1_stepAt : GoodIn wsX1_pointsWith (wsV RX1 74 RX1 yX1_stepAt wsX1_stepAt) := goodIn_app (goodIn_of _ (by decide +kernel)) ggX1_pointsWith_X1_stepAt
theorem dX1_pointsWith_0 : decode cX1_pointsWith 0 = .ok (.aload_n 0, 1) := by decide +kernel
theorem dX1_pointsWith_1 : decode cX1_pointsWith 1 = .ok (.iload_n 1, 1) := by decide +kernel
theorem dX1_pointsWith_2 : decode cX1_pointsWith 2 = .ok (.invokevirtual 44, 3) := by decide +kernel
theorem dX1_pointsWith_5 : decode cX1_pointsWith 5 = .ok (.istore 4, 2) := by decide +kernel
theorem dX1_pointsWith_7 : decode cX1_pointsWith 7 = .ok (.iload 4, 2) := by decide +kernel
theorem dX1_pointsWith_9 : decode cX1_pointsWith 9 = .ok (.iload_n 3, 1) := by decide +kernel
theorem dX1_pointsWith_10 : decode cX1_pointsWith 10 = .ok (.if_icmp .ne 7, 3) := by decide +kernel
theorem dX1_pointsWith_13 : decode cX1_pointsWith 13 = .ok (.iconst 1, 1) := by decide +kernel
theorem dX1_pointsWith_14 : decode cX1_pointsWith 14 = .ok (.goto 4, 3) := by decide +kernel
theorem dX1_pointsWith_17 : decode cX1_pointsWith 17 = .ok (.iconst 0, 1) := by decide +kernel
theorem dX1_pointsWith_18 : decode cX1_pointsWith 18 = .ok (.istore 5, 2) := by decide +kernel
theorem dX1_pointsWith_20 : decode cX1_pointsWith 20 = .ok (.iload_n 1, 1) := by decide +kernel
theorem dX1_pointsWith_21 : decode cX1_pointsWith 21 = .ok (.istore 6, 2) := by decide +kernel
theorem dX1_pointsWith_23 : decode cX1_pointsWith 23 = .ok (.iload 6, 2) := by decide +kernel
theorem dX1_pointsWith_25 : decode cX1_pointsWith 25 = .ok (.iload_n 2, 1) := by decide +kernel
theorem dX1_pointsWith_26 : decode cX1_pointsWith 26 = .ok (.if_icmp .ge 29, 3) := by decide +kernel
theorem dX1_pointsWith_29 : decode cX1_pointsWith 29 = .ok (.iload 4, 2) := by decide +kernel
theorem dX1_pointsWith_31 : decode cX1_pointsWith 31 = .ok (.aload_n 0, 1) := by decide +kernel
theorem dX1_pointsWith_32 : decode cX1_pointsWith 32 = .ok (.iload 6, 2) := by decide +kernel
theorem dX1_pointsWith_34 : decode cX1_pointsWith 34 = .ok (.invokevirtual 74, 3) := by decide +kernel
theorem dX1_pointsWith_37 : decode cX1_pointsWith 37 = .ok (.iadd, 1) := by decide +kernel
theorem dX1_pointsWith_38 : decode cX1_pointsWith 38 = .ok (.istore 4, 2) := by decide +kernel
theorem dX1_pointsWith_40 : decode cX1_pointsWith 40 = .ok (.iload 4, 2) := by decide +kernel
theorem dX1_pointsWith_42 : decode cX1_pointsWith 42 = .ok (.iload_n 3, 1) := by decide +kernel
theorem dX1_pointsWith_43 : decode cX1_pointsWith 43 = .ok (.if_icmp .ne 6, 3) := by decide +kernel
theorem dX1_pointsWith_46 : decode cX1_pointsWith 46 = .ok (.iinc 5 1, 3) := by decide +kernel
theorem dX1_pointsWith_49 : decode cX1_pointsWith 49 = .ok (.iinc 6 1, 3) := by decide +kernel
theorem dX1_pointsWith_52 : decode cX1_pointsWith 52 = .ok (.goto (-29), 3) := by decide +kernel
theorem dX1_pointsWith_55 : decode cX1_pointsWith 55 = .ok (.iload 5, 2) := by decide +kernel
theorem dX1_pointsWith_57 : decode cX1_pointsWith 57 = .ok (.ireturn, 1) := by decide +kernel
set_option maxRecDepth 20000 in
theorem ggX1_isOfTree_X1_bitAt : GoodIn wsX1_isOfTree wsX1_bitAt := goodIn_r _ [6, 7, 8, 40, 41, 42, 43, 44, 45] (by decide +kernel) (by decide +kernel)
set_option maxRecDepth 20000 in
theorem gX1_isOfTree_X1_bitAt : GoodIn wsX1_isOfTree (wsV RX1 77 RX1 yX1_bitAt wsX1_bitAt) := goodIn_app (goodIn_of _ (by decide +kernel)) ggX1_isOfTree_X1_bitAt
set_option maxRecDepth 20000 in
theorem ggX1_isOfTree_X1_searchOn : GoodIn wsX1_isOfTree wsX1_searchOn := goodIn_r _ [12, 1, 13, 14, 15, 16, 5, 17, 7, 8, 18, 19, 20, 21, 22, 23, 24, 25, 26, 27, 28, 29, 30, 31, 32, 33, 34, 35, 36, 37, 38, 39, 40, 41, 42, 43, 44, 45] (by decide +kernel) (by decide +kernel)
set_option maxRecDepth 20000 in
theorem gX1_isOfTree_X1_searchOn : GoodIn wsX1_isOfTree (wsV RX1 80 RX1 yX1_searchOn wsX1_searchOn) := goodIn_app (goodIn_of _ (by decide +kernel)) ggX1_isOfTree_X1_searchOn
theorem dX1_isOfTree_0 : decode cX1_isOfTree 0 = .ok (.aload_n 0, 1) := by decide +kernel
theorem dX1_isOfTree_1 : decode cX1_isOfTree 1 = .ok (.getfield 21, 3) := by decide +kernel
theorem dX1_isOfTree_4 : decode cX1_isOfTree 4 = .ok (.ifCond .eq 25, 3) := by decide +kernel
theorem dX1_isOfTree_7 : decode cX1_isOfTree 7 = .ok (.aload_n 0, 1) := by decide +kernel
theorem dX1_isOfTree_8 : decode cX1_isOfTree 8 = .ok (.iconst 0, 1) := by decide +kernel
theorem dX1_isOfTree_9 : decode cX1_isOfTree 9 = .ok (.invokevirtual 77, 3) := by decide +kernel
theorem dX1_isOfTree_12 : decode cX1_isOfTree 12 = .ok (.iconst 1, 1) := by decide +kernel
theorem dX1_isOfTree_13 : decode cX1_isOfTree 13 = .ok (.if_icmp .ne 20, 3) := by decide +kernel
theorem dX1_isOfTree_16 : decode cX1_isOfTree 16 = .ok (.aload_n 0, 1) := by decide +kernel
theorem dX1_isOfTree_17 : decode cX1_isOfTree 17 = .ok (.iconst 0, 1) := by decide +kernel
theorem dX1_isOfTree_18 : decode cX1_isOfTree 18 = .ok (.iconst 0, 1) := by decide +kernel
theorem dX1_isOfTree_19 : decode cX1_isOfTree 19 = .ok (.invokevirtual 80, 3) := by decide +kernel
theorem dX1_isOfTree_22 : decode cX1_isOfTree 22 = .ok (.aload_n 0, 1) := by decide +kernel
theorem dX1_isOfTree_23 : decode cX1_isOfTree 23 = .ok (.getfield 21, 3) := by decide +kernel
theorem dX1_isOfTree_26 : decode cX1_isOfTree 26 = .ok (.if_icmp .ne 7, 3) := by decide +kernel
theorem dX1_isOfTree_29 : decode cX1_isOfTree 29 = .ok (.iconst 1, 1) := by decide +kernel
theorem dX1_isOfTree_30 : decode cX1_isOfTree 30 = .ok (.goto 4, 3) := by decide +kernel
theorem dX1_isOfTree_33 : decode cX1_isOfTree 33 = .ok (.iconst 0, 1) := by decide +kernel
theorem dX1_isOfTree_34 : decode cX1_isOfTree 34 = .ok (.ireturn, 1) := by decide +kernel
theorem dX1_clear_0 : decode cX1_clear 0 = .ok (.aload_n 0, 1) := by decide +kernel
theorem dX1_clear_1 : decode cX1_clear 1 = .ok (.lconst 0, 1) := by decide +kernel
theorem dX1_clear_2 : decode cX1_clear 2 = .ok (.putfield 25, 3) := by decide +kernel
theorem dX1_clear_5 : decode cX1_clear 5 = .ok (.aload_n 0, 1) := by decide +kernel
theorem dX1_clear_6 : decode cX1_clear 6 = .ok (.lconst 0, 1) := by decide +kernel
theorem dX1_clear_7 : decode cX1_clear 7 = .ok (.putfield 29, 3) := by decide +kernel
theorem dX1_clear_10 : decode cX1_clear 10 = .ok (.aload_n 0, 1) := by decide +kernel
theorem dX1_clear_11 : decode cX1_clear 11 = .ok (.iconst 0, 1) := by decide +kernel
theorem dX1_clear_12 : decode cX1_clear 12 = .ok (.putfield 21, 3) := by decide +kernel
theorem dX1_clear_15 : decode cX1_clear 15 = .ok (.return_, 1) := by decide +kernel
theorem dX1_append_0 : decode cX1_append 0 = .ok (.aload_n 0, 1) := by decide +kernel
theorem dX1_append_1 : decode cX1_append 1 = .ok (.getfield 21, 3) := by decide +kernel
theorem dX1_append_4 : decode cX1_append 4 = .ok (.sipush 128, 3) := by decide +kernel
theorem dX1_append_7 : decode cX1_append 7 = .ok (.if_icmp .lt 4, 3) := by decide +kernel
theorem dX1_append_10 : decode cX1_append 10 = .ok (.return_, 1) := by decide +kernel
theorem dX1_append_11 : decode cX1_append 11 = .ok (.aload_n 0, 1) := by decide +kernel
theorem dX1_append_12 : decode cX1_append 12 = .ok (.getfield 21, 3) := by decide +kernel
theorem dX1_append_15 : decode cX1_append 15 = .ok (.bipush 64, 2) := by decide +kernel
theorem dX1_append_17 : decode cX1_append 17 = .ok (.if_icmp .ge 22, 3) := by decide +kernel
theorem dX1_append_20 : decode cX1_append 20 = .ok (.aload_n 0, 1) := by decide +kernel
theorem dX1_append_21 : decode cX1_append 21 = .ok (.dup, 1) := by decide +kernel
theorem dX1_append_22 : decode cX1_append 22 = .ok (.getfield 25, 3) := by decide +kernel
theorem dX1_append_25 : decode cX1_append 25 = .ok (.iload_n 1, 1) := by decide +kernel
theorem dX1_append_26 : decode cX1_append 26 = .ok (.i2l, 1) := by decide +kernel
theorem dX1_append_27 : decode cX1_append 27 = .ok (.aload_n 0, 1) := by decide +kernel
theorem dX1_append_28 : decode cX1_append 28 = .ok (.getfield 21, 3) := by decide +kernel
theorem dX1_append_31 : decode cX1_append 31 = .ok (.lshl, 1) := by decide +kernel
theorem dX1_append_32 : decode cX1_append 32 = .ok (.lor, 1) := by decide +kernel
theorem dX1_append_33 : decode cX1_append 33 = .ok (.putfield 25, 3) := by decide +kernel
theorem dX1_append_36 : decode cX1_append 36 = .ok (.goto 22, 3) := by decide +kernel
theorem dX1_append_39 : decode cX1_append 39 = .ok (.aload_n 0, 1) := by decide +kernel
theorem dX1_append_40 : decode cX1_append 40 = .ok (.dup, 1) := by decide +kernel
theorem dX1_append_41 : decode cX1_append 41 = .ok (.getfield 29, 3) := by decide +kernel
theorem dX1_append_44 : decode cX1_append 44 = .ok (.iload_n 1, 1) := by decide +kernel
theorem dX1_append_45 : decode cX1_append 45 = .ok (.i2l, 1) := by decide +kernel
theorem dX1_append_46 : decode cX1_append 46 = .ok (.aload_n 0, 1) := by decide +kernel
theorem dX1_append_47 : decode cX1_append 47 = .ok (.getfield 21, 3) := by decide +kernel
theorem dX1_append_50 : decode cX1_append 50 = .ok (.bipush 64, 2) := by decide +kernel
theorem dX1_append_52 : decode cX1_append 52 = .ok (.isub, 1) := by decide +kernel
theorem dX1_append_53 : decode cX1_append 53 = .ok (.lshl, 1) := by decide +kernel
theorem dX1_append_54 : decode cX1_append 54 = .ok (.lor, 1) := by decide +kernel
theorem dX1_append_55 : decode cX1_append 55 = .ok (.putfield 29, 3) := by decide +kernel
theorem dX1_append_58 : decode cX1_append 58 = .ok (.aload_n 0, 1) := by decide +kernel
theorem dX1_append_59 : decode cX1_append 59 = .ok (.dup, 1) := by decide +kernel
theorem dX1_append_60 : decode cX1_append 60 = .ok (.getfield 21, 3) := by decide +kernel
theorem dX1_append_63 : decode cX1_append 63 = .ok (.iconst 1, 1) := by decide +kernel
theorem dX1_append_64 : decode cX1_append 64 = .ok (.iadd, 1) := by decide +kernel
theorem dX1_append_65 : decode cX1_append 65 = .ok (.putfield 21, 3) := by decide +kernel
theorem dX1_append_68 : decode cX1_append 68 = .ok (.return_, 1) := by decide +kernel
set_option maxRecDepth 20000 in
theorem ggX1_takenLow_X0_downLow : GoodIn wsX1_takenLow wsX0_downLow := goodIn_r _ [6] (by decide +kernel) (by decide +kernel)
set_option maxRecDepth 20000 in
theorem gX1_takenLow_X0_downLow : GoodIn wsX1_takenLow (va_wsS RX1 52 yX0_downLow wsX0_downLow) := goodIn_app (goodIn_of _ (by decide +kernel)) ggX1_takenLow_X0_downLow
set_option maxRecDepth 20000 in
theorem ggX1_takenLow_X0_firstOf : GoodIn wsX1_takenLow wsX0_firstOf := goodIn_r _ [9, 10] (by decide +kernel) (by decide +kernel)
set_option maxRecDepth 20000 in
theorem gX1_takenLow_X0_firstOf : GoodIn wsX1_takenLow (va_wsS RX1 32 yX0_firstOf wsX0_firstOf) := goodIn_app (goodIn_of _ (by decide +kernel)) ggX1_takenLow_X0_firstOf
theorem dX1_takenLow_0 : decode cX1_takenLow 0 = .ok (.aload_n 0, 1) := by decide +kernel
theorem dX1_takenLow_1 : decode cX1_takenLow 1 = .ok (.getfield 25, 3) := by decide +kernel
theorem dX1_takenLow_4 : decode cX1_takenLow 4 = .ok (.aload_n 0, 1) := by decide +kernel
theorem dX1_takenLow_5 : decode cX1_takenLow 5 = .ok (.getfield 29, 3) := by decide +kernel
theorem dX1_takenLow_8 : decode cX1_takenLow 8 = .ok (.iload_n 1, 1) := by decide +kernel
theorem dX1_takenLow_9 : decode cX1_takenLow 9 = .ok (.invokestatic 52, 3) := by decide +kernel
theorem dX1_takenLow_12 : decode cX1_takenLow 12 = .ok (.iload_n 2, 1) := by decide +kernel
theorem dX1_takenLow_13 : decode cX1_takenLow 13 = .ok (.invokestatic 32, 3) := by decide +kernel
theorem dX1_takenLow_16 : decode cX1_takenLow 16 = .ok (.land, 1) := by decide +kernel
theorem dX1_takenLow_17 : decode cX1_takenLow 17 = .ok (.lreturn, 1) := by decide +kernel
set_option maxRecDepth 20000 in
theorem ggX1_takenHigh_X0_downHigh : GoodIn wsX1_takenHigh wsX0_downHigh := goodIn_r _ [5] (by decide +kernel) (by decide +kernel)
set_option maxRecDepth 20000 in
theorem gX1_takenHigh_X0_downHigh : GoodIn wsX1_takenHigh (va_wsS RX1 56 yX0_downHigh wsX0_downHigh) := goodIn_app (goodIn_of _ (by decide +kernel)) ggX1_takenHigh_X0_downHigh
set_option maxRecDepth 20000 in
theorem ggX1_takenHigh_X0_firstOf : GoodIn wsX1_takenHigh wsX0_firstOf := goodIn_r _ [8, 9] (by decide +kernel) (by decide +kernel)
set_option maxRecDepth 20000 in
theorem gX1_takenHigh_X0_firstOf : GoodIn wsX1_takenHigh (va_wsS RX1 32 yX0_firstOf wsX0_firstOf) := goodIn_app (goodIn_of _ (by decide +kernel)) ggX1_takenHigh_X0_firstOf
theorem dX1_takenHigh_0 : decode cX1_takenHigh 0 = .ok (.aload_n 0, 1) := by decide +kernel
theorem dX1_takenHigh_1 : decode cX1_takenHigh 1 = .ok (.getfield 29, 3) := by decide +kernel
theorem dX1_takenHigh_4 : decode cX1_takenHigh 4 = .ok (.iload_n 1, 1) := by decide +kernel
theorem dX1_takenHigh_5 : decode cX1_takenHigh 5 = .ok (.invokestatic 56, 3) := by decide +kernel
theorem dX1_takenHigh_8 : decode cX1_takenHigh 8 = .ok (.iload_n 2, 1) := by decide +kernel
theorem dX1_takenHigh_9 : decode cX1_takenHigh 9 = .ok (.bipush 64, 2) := by decide +kernel
theorem dX1_takenHigh_11 : decode cX1_takenHigh 11 = .ok (.isub, 1) := by decide +kernel
theorem dX1_takenHigh_12 : decode cX1_takenHigh 12 = .ok (.invokestatic 32, 3) := by decide +kernel
theorem dX1_takenHigh_15 : decode cX1_takenHigh 15 = .ok (.land, 1) := by decide +kernel
theorem dX1_takenHigh_16 : decode cX1_takenHigh 16 = .ok (.lreturn, 1) := by decide +kernel
set_option maxRecDepth 20000 in
theorem ggX1_remove_X0_firstOf : GoodIn wsX1_remove wsX0_firstOf := goodIn_r _ [8, 9] (by decide +kernel) (by decide +kernel)
set_option maxRecDepth 20000 in
theorem gX1_remove_X0_firstOf : GoodIn wsX1_remove (va_wsS RX1 32 yX0_firstOf wsX0_firstOf) := goodIn_app (goodIn_of _ (by decide +kernel)) ggX1_remove_X0_firstOf
set_option maxRecDepth 20000 in
theorem ggX1_remove_X0_downLow : GoodIn wsX1_remove wsX0_downLow := goodIn_r _ [12] (by decide +kernel) (by decide +kernel)
set_option maxRecDepth 20000 in
theorem gX1_remove_X0_downLow : GoodIn wsX1_remove (va_wsS RX1 52 yX0_downLow wsX0_downLow) := goodIn_app (goodIn_of _ (by decide +kernel)) ggX1_remove_X0_downLow
set_option maxRecDepth 20000 in
theorem ggX1_remove_X0_downHigh : GoodIn wsX1_remove wsX0_downHigh := goodIn_r _ [15] (by decide +kernel) (by decide +kernel)
set_option maxRecDepth 20000 in
theorem gX1_remove_X0_downHigh : GoodIn wsX1_remove (va_wsS RX1 56 yX0_downHigh wsX0_downHigh) := goodIn_app (goodIn_of _ (by decide +kernel)) ggX1_remove_X0_downHigh
set_option maxRecDepth 20000 in
theorem ggX1_remove_X1_summarise : GoodIn wsX1_remove wsX1_summarise := goodIn_r _ [20, 21, 22, 23, 19, 24, 4, 25, 26, 27, 28, 29, 30, 31, 32, 33, 34, 35, 36, 37, 38, 1, 2, 39, 40, 41, 42, 43, 44] (by decide +kernel) (by decide +kernel)
set_option maxRecDepth 20000 in
theorem gX1_remove_X1_summarise : GoodIn wsX1_remove (wsV RX1 95 RX1 yX1_summarise wsX1_summarise) := goodIn_app (goodIn_of _ (by decide +kernel)) ggX1_remove_X1_summarise
theorem dX1_remove_0 : decode cX1_remove 0 = .ok (.iload_n 1, 1) := by decide +kernel
theorem dX1_remove_1 : decode cX1_remove 1 = .ok (.invokestatic 32, 3) := by decide +kernel
theorem dX1_remove_4 : decode cX1_remove 4 = .ok (.lstore_n 3, 1) := by decide +kernel
theorem dX1_remove_5 : decode cX1_remove 5 = .ok (.iload_n 1, 1) := by decide +kernel
theorem dX1_remove_6 : decode cX1_remove 6 = .ok (.bipush 64, 2) := by decide +kernel
theorem dX1_remove_8 : decode cX1_remove 8 = .ok (.isub, 1) := by decide +kernel
theorem dX1_remove_9 : decode cX1_remove 9 = .ok (.invokestatic 32, 3) := by decide +kernel
theorem dX1_remove_12 : decode cX1_remove 12 = .ok (.lstore 5, 2) := by decide +kernel
theorem dX1_remove_14 : decode cX1_remove 14 = .ok (.aload_n 0, 1) := by decide +kernel
theorem dX1_remove_15 : decode cX1_remove 15 = .ok (.getfield 25, 3) := by decide +kernel
theorem dX1_remove_18 : decode cX1_remove 18 = .ok (.lload_n 3, 1) := by decide +kernel
theorem dX1_remove_19 : decode cX1_remove 19 = .ok (.land, 1) := by decide +kernel
theorem dX1_remove_20 : decode cX1_remove 20 = .ok (.aload_n 0, 1) := by decide +kernel
theorem dX1_remove_21 : decode cX1_remove 21 = .ok (.getfield 25, 3) := by decide +kernel
theorem dX1_remove_24 : decode cX1_remove 24 = .ok (.aload_n 0, 1) := by decide +kernel
theorem dX1_remove_25 : decode cX1_remove 25 = .ok (.getfield 29, 3) := by decide +kernel
theorem dX1_remove_28 : decode cX1_remove 28 = .ok (.iload_n 2, 1) := by decide +kernel
theorem dX1_remove_29 : decode cX1_remove 29 = .ok (.invokestatic 52, 3) := by decide +kernel
theorem dX1_remove_32 : decode cX1_remove 32 = .ok (.lload_n 3, 1) := by decide +kernel
theorem dX1_remove_33 : decode cX1_remove 33 = .ok (.ldc2_w 50, 3) := by decide +kernel
theorem dX1_remove_36 : decode cX1_remove 36 = .ok (.lxor, 1) := by decide +kernel
theorem dX1_remove_37 : decode cX1_remove 37 = .ok (.land, 1) := by decide +kernel
theorem dX1_remove_38 : decode cX1_remove 38 = .ok (.lor, 1) := by decide +kernel
theorem dX1_remove_39 : decode cX1_remove 39 = .ok (.lstore 7, 2) := by decide +kernel
theorem dX1_remove_41 : decode cX1_remove 41 = .ok (.aload_n 0, 1) := by decide +kernel
theorem dX1_remove_42 : decode cX1_remove 42 = .ok (.aload_n 0, 1) := by decide +kernel
theorem dX1_remove_43 : decode cX1_remove 43 = .ok (.getfield 29, 3) := by decide +kernel
theorem dX1_remove_46 : decode cX1_remove 46 = .ok (.lload 5, 2) := by decide +kernel
theorem dX1_remove_48 : decode cX1_remove 48 = .ok (.land, 1) := by decide +kernel
theorem dX1_remove_49 : decode cX1_remove 49 = .ok (.aload_n 0, 1) := by decide +kernel
theorem dX1_remove_50 : decode cX1_remove 50 = .ok (.getfield 29, 3) := by decide +kernel
theorem dX1_remove_53 : decode cX1_remove 53 = .ok (.iload_n 2, 1) := by decide +kernel
theorem dX1_remove_54 : decode cX1_remove 54 = .ok (.invokestatic 56, 3) := by decide +kernel
theorem dX1_remove_57 : decode cX1_remove 57 = .ok (.lload 5, 2) := by decide +kernel
theorem dX1_remove_59 : decode cX1_remove 59 = .ok (.ldc2_w 50, 3) := by decide +kernel
theorem dX1_remove_62 : decode cX1_remove 62 = .ok (.lxor, 1) := by decide +kernel
theorem dX1_remove_63 : decode cX1_remove 63 = .ok (.land, 1) := by decide +kernel
theorem dX1_remove_64 : decode cX1_remove 64 = .ok (.lor, 1) := by decide +kernel
theorem dX1_remove_65 : decode cX1_remove 65 = .ok (.putfield 29, 3) := by decide +kernel
theorem dX1_remove_68 : decode cX1_remove 68 = .ok (.aload_n 0, 1) := by decide +kernel
theorem dX1_remove_69 : decode cX1_remove 69 = .ok (.lload 7, 2) := by decide +kernel
theorem dX1_remove_71 : decode cX1_remove 71 = .ok (.putfield 25, 3) := by decide +kernel
theorem dX1_remove_74 : decode cX1_remove 74 = .ok (.aload_n 0, 1) := by decide +kernel
theorem dX1_remove_75 : decode cX1_remove 75 = .ok (.dup, 1) := by decide +kernel
theorem dX1_remove_76 : decode cX1_remove 76 = .ok (.getfield 21, 3) := by decide +kernel
theorem dX1_remove_79 : decode cX1_remove 79 = .ok (.iload_n 2, 1) := by decide +kernel
theorem dX1_remove_80 : decode cX1_remove 80 = .ok (.isub, 1) := by decide +kernel
theorem dX1_remove_81 : decode cX1_remove 81 = .ok (.putfield 21, 3) := by decide +kernel
theorem dX1_remove_84 : decode cX1_remove 84 = .ok (.aload_n 0, 1) := by decide +kernel
theorem dX1_remove_85 : decode cX1_remove 85 = .ok (.iload_n 1, 1) := by decide +kernel
theorem dX1_remove_86 : decode cX1_remove 86 = .ok (.invokevirtual 95, 3) := by decide +kernel
theorem dX1_remove_89 : decode cX1_remove 89 = .ok (.return_, 1) := by decide +kernel
set_option maxRecDepth 20000 in
theorem ggX1_insert_X0_firstOf : GoodIn wsX1_insert wsX0_firstOf := goodIn_r _ [8, 9] (by decide +kernel) (by decide +kernel)
set_option maxRecDepth 20000 in
theorem gX1_insert_X0_firstOf : GoodIn wsX1_insert (va_wsS RX1 32 yX0_firstOf wsX0_firstOf) := goodIn_app (goodIn_of _ (by decide +kernel)) ggX1_insert_X0_firstOf
set_option maxRecDepth 20000 in
theorem ggX1_insert_X0_upHigh : GoodIn wsX1_insert wsX0_upHigh := goodIn_r _ [12] (by decide +kernel) (by decide +kernel)
set_option maxRecDepth 20000 in
theorem gX1_insert_X0_upHigh : GoodIn wsX1_insert (va_wsS RX1 99 yX0_upHigh wsX0_upHigh) := goodIn_app (goodIn_of _ (by decide +kernel)) ggX1_insert_X0_upHigh
set_option maxRecDepth 20000 in
theorem ggX1_insert_X0_upLow : GoodIn wsX1_insert wsX0_upLow := goodIn_r _ [15] (by decide +kernel) (by decide +kernel)
set_option maxRecDepth 20000 in
theorem gX1_insert_X0_upLow : GoodIn wsX1_insert (va_wsS RX1 102 yX0_upLow wsX0_upLow) := goodIn_app (goodIn_of _ (by decide +kernel)) ggX1_insert_X0_upLow
set_option maxRecDepth 20000 in
theorem ggX1_insert_X1_summarise : GoodIn wsX1_insert wsX1_summarise := goodIn_r _ [20, 21, 22, 23, 19, 24, 4, 25, 26, 27, 28, 29, 30, 31, 32, 33, 34, 35, 36, 37, 38, 1, 3, 39, 40, 41, 42, 43, 44] (by decide +kernel) (by decide +kernel)
set_option maxRecDepth 20000 in
theorem gX1_insert_X1_summarise : GoodIn wsX1_insert (wsV RX1 95 RX1 yX1_summarise wsX1_summarise) := goodIn_app (goodIn_of _ (by decide +kernel)) ggX1_insert_X1_summarise
theorem dX1_insert_0 : decode cX1_insert 0 = .ok (.iload_n 1, 1) := by decide +kernel
theorem dX1_insert_1 : decode cX1_insert 1 = .ok (.invokestatic 32, 3) := by decide +kernel
theorem dX1_insert_4 : decode cX1_insert 4 = .ok (.lstore 7, 2) := by decide +kernel
theorem dX1_insert_6 : decode cX1_insert 6 = .ok (.iload_n 1, 1) := by decide +kernel
theorem dX1_insert_7 : decode cX1_insert 7 = .ok (.bipush 64, 2) := by decide +kernel
theorem dX1_insert_9 : decode cX1_insert 9 = .ok (.isub, 1) := by decide +kernel
theorem dX1_insert_10 : decode cX1_insert 10 = .ok (.invokestatic 32, 3) := by decide +kernel
theorem dX1_insert_13 : decode cX1_insert 13 = .ok (.lstore 9, 2) := by decide +kernel
theorem dX1_insert_15 : decode cX1_insert 15 = .ok (.aload_n 0, 1) := by decide +kernel
theorem dX1_insert_16 : decode cX1_insert 16 = .ok (.getfield 25, 3) := by decide +kernel
theorem dX1_insert_19 : decode cX1_insert 19 = .ok (.lload 7, 2) := by decide +kernel
theorem dX1_insert_21 : decode cX1_insert 21 = .ok (.ldc2_w 50, 3) := by decide +kernel
theorem dX1_insert_24 : decode cX1_insert 24 = .ok (.lxor, 1) := by decide +kernel
theorem dX1_insert_25 : decode cX1_insert 25 = .ok (.land, 1) := by decide +kernel
theorem dX1_insert_26 : decode cX1_insert 26 = .ok (.lstore 11, 2) := by decide +kernel
theorem dX1_insert_28 : decode cX1_insert 28 = .ok (.aload_n 0, 1) := by decide +kernel
theorem dX1_insert_29 : decode cX1_insert 29 = .ok (.getfield 29, 3) := by decide +kernel
theorem dX1_insert_32 : decode cX1_insert 32 = .ok (.lload 9, 2) := by decide +kernel
theorem dX1_insert_34 : decode cX1_insert 34 = .ok (.ldc2_w 50, 3) := by decide +kernel
theorem dX1_insert_37 : decode cX1_insert 37 = .ok (.lxor, 1) := by decide +kernel
theorem dX1_insert_38 : decode cX1_insert 38 = .ok (.land, 1) := by decide +kernel
theorem dX1_insert_39 : decode cX1_insert 39 = .ok (.lstore 13, 2) := by decide +kernel
theorem dX1_insert_41 : decode cX1_insert 41 = .ok (.aload_n 0, 1) := by decide +kernel
theorem dX1_insert_42 : decode cX1_insert 42 = .ok (.aload_n 0, 1) := by decide +kernel
theorem dX1_insert_43 : decode cX1_insert 43 = .ok (.getfield 29, 3) := by decide +kernel
theorem dX1_insert_46 : decode cX1_insert 46 = .ok (.lload 9, 2) := by decide +kernel
theorem dX1_insert_48 : decode cX1_insert 48 = .ok (.land, 1) := by decide +kernel
theorem dX1_insert_49 : decode cX1_insert 49 = .ok (.lload 11, 2) := by decide +kernel
theorem dX1_insert_51 : decode cX1_insert 51 = .ok (.lload 13, 2) := by decide +kernel
theorem dX1_insert_53 : decode cX1_insert 53 = .ok (.iload_n 2, 1) := by decide +kernel
theorem dX1_insert_54 : decode cX1_insert 54 = .ok (.invokestatic 99, 3) := by decide +kernel
theorem dX1_insert_57 : decode cX1_insert 57 = .ok (.lor, 1) := by decide +kernel
theorem dX1_insert_58 : decode cX1_insert 58 = .ok (.lload_n 3, 1) := by decide +kernel
theorem dX1_insert_59 : decode cX1_insert 59 = .ok (.lload 5, 2) := by decide +kernel
theorem dX1_insert_61 : decode cX1_insert 61 = .ok (.iload_n 1, 1) := by decide +kernel
theorem dX1_insert_62 : decode cX1_insert 62 = .ok (.invokestatic 99, 3) := by decide +kernel
theorem dX1_insert_65 : decode cX1_insert 65 = .ok (.lor, 1) := by decide +kernel
theorem dX1_insert_66 : decode cX1_insert 66 = .ok (.putfield 29, 3) := by decide +kernel
theorem dX1_insert_69 : decode cX1_insert 69 = .ok (.aload_n 0, 1) := by decide +kernel
theorem dX1_insert_70 : decode cX1_insert 70 = .ok (.aload_n 0, 1) := by decide +kernel
theorem dX1_insert_71 : decode cX1_insert 71 = .ok (.getfield 25, 3) := by decide +kernel
theorem dX1_insert_74 : decode cX1_insert 74 = .ok (.lload 7, 2) := by decide +kernel
theorem dX1_insert_76 : decode cX1_insert 76 = .ok (.land, 1) := by decide +kernel
theorem dX1_insert_77 : decode cX1_insert 77 = .ok (.lload 11, 2) := by decide +kernel
theorem dX1_insert_79 : decode cX1_insert 79 = .ok (.iload_n 2, 1) := by decide +kernel
theorem dX1_insert_80 : decode cX1_insert 80 = .ok (.invokestatic 102, 3) := by decide +kernel
theorem dX1_insert_83 : decode cX1_insert 83 = .ok (.lor, 1) := by decide +kernel
theorem dX1_insert_84 : decode cX1_insert 84 = .ok (.lload_n 3, 1) := by decide +kernel
theorem dX1_insert_85 : decode cX1_insert 85 = .ok (.iload_n 1, 1) := by decide +kernel
theorem dX1_insert_86 : decode cX1_insert 86 = .ok (.invokestatic 102, 3) := by decide +kernel
theorem dX1_insert_89 : decode cX1_insert 89 = .ok (.lor, 1) := by decide +kernel
theorem dX1_insert_90 : decode cX1_insert 90 = .ok (.putfield 25, 3) := by decide +kernel
theorem dX1_insert_93 : decode cX1_insert 93 = .ok (.aload_n 0, 1) := by decide +kernel
theorem dX1_insert_94 : decode cX1_insert 94 = .ok (.dup, 1) := by decide +kernel
theorem dX1_insert_95 : decode cX1_insert 95 = .ok (.getfield 21, 3) := by decide +kernel
theorem dX1_insert_98 : decode cX1_insert 98 = .ok (.iload_n 2, 1) := by decide +kernel
theorem dX1_insert_99 : decode cX1_insert 99 = .ok (.iadd, 1) := by decide +kernel
theorem dX1_insert_100 : decode cX1_insert 100 = .ok (.putfield 21, 3) := by decide +kernel
theorem dX1_insert_103 : decode cX1_insert 103 = .ok (.aload_n 0, 1) := by decide +kernel
theorem dX1_insert_104 : decode cX1_insert 104 = .ok (.iload_n 1, 1) := by decide +kernel
theorem dX1_insert_105 : decode cX1_insert 105 = .ok (.invokevirtual 95, 3) := by decide +kernel
theorem dX1_insert_108 : decode cX1_insert 108 = .ok (.return_, 1) := by decide +kernel
theorem dX1_become_0 : decode cX1_become 0 = .ok (.aload_n 0, 1) := by decide +kernel
theorem dX1_become_1 : decode cX1_become 1 = .ok (.aload_n 1, 1) := by decide +kernel
theorem dX1_become_2 : decode cX1_become 2 = .ok (.getfield 25, 3) := by decide +kernel
theorem dX1_become_5 : decode cX1_become 5 = .ok (.putfield 25, 3) := by decide +kernel
theorem dX1_become_8 : decode cX1_become 8 = .ok (.aload_n 0, 1) := by decide +kernel
theorem dX1_become_9 : decode cX1_become 9 = .ok (.aload_n 1, 1) := by decide +kernel
theorem dX1_become_10 : decode cX1_become 10 = .ok (.getfield 29, 3) := by decide +kernel
theorem dX1_become_13 : decode cX1_become 13 = .ok (.putfield 29, 3) := by decide +kernel
theorem dX1_become_16 : decode cX1_become 16 = .ok (.aload_n 0, 1) := by decide +kernel
theorem dX1_become_17 : decode cX1_become 17 = .ok (.aload_n 1, 1) := by decide +kernel
theorem dX1_become_18 : decode cX1_become 18 = .ok (.getfield 21, 3) := by decide +kernel
theorem dX1_become_21 : decode cX1_become 21 = .ok (.putfield 21, 3) := by decide +kernel
theorem dX1_become_24 : decode cX1_become 24 = .ok (.aload_n 1, 1) := by decide +kernel
theorem dX1_become_25 : decode cX1_become 25 = .ok (.getfield 9, 3) := by decide +kernel
theorem dX1_become_28 : decode cX1_become 28 = .ok (.iconst 0, 1) := by decide +kernel
theorem dX1_become_29 : decode cX1_become 29 = .ok (.aload_n 0, 1) := by decide +kernel
theorem dX1_become_30 : decode cX1_become 30 = .ok (.getfield 9, 3) := by decide +kernel
theorem dX1_become_33 : decode cX1_become 33 = .ok (.iconst 0, 1) := by decide +kernel
theorem dX1_become_34 : decode cX1_become 34 = .ok (.bipush 8, 2) := by decide +kernel
theorem dX1_become_36 : decode cX1_become 36 = .ok (.invokestatic 105, 3) := by decide +kernel
theorem dX1_become_39 : decode cX1_become 39 = .ok (.aload_n 1, 1) := by decide +kernel
theorem dX1_become_40 : decode cX1_become 40 = .ok (.getfield 15, 3) := by decide +kernel
theorem dX1_become_43 : decode cX1_become 43 = .ok (.iconst 0, 1) := by decide +kernel
theorem dX1_become_44 : decode cX1_become 44 = .ok (.aload_n 0, 1) := by decide +kernel
theorem dX1_become_45 : decode cX1_become 45 = .ok (.getfield 15, 3) := by decide +kernel
theorem dX1_become_48 : decode cX1_become 48 = .ok (.iconst 0, 1) := by decide +kernel
theorem dX1_become_49 : decode cX1_become 49 = .ok (.bipush 8, 2) := by decide +kernel
theorem dX1_become_51 : decode cX1_become 51 = .ok (.invokestatic 105, 3) := by decide +kernel
theorem dX1_become_54 : decode cX1_become 54 = .ok (.aload_n 1, 1) := by decide +kernel
theorem dX1_become_55 : decode cX1_become 55 = .ok (.getfield 18, 3) := by decide +kernel
theorem dX1_become_58 : decode cX1_become 58 = .ok (.iconst 0, 1) := by decide +kernel
theorem dX1_become_59 : decode cX1_become 59 = .ok (.aload_n 0, 1) := by decide +kernel
theorem dX1_become_60 : decode cX1_become 60 = .ok (.getfield 18, 3) := by decide +kernel
theorem dX1_become_63 : decode cX1_become 63 = .ok (.iconst 0, 1) := by decide +kernel
theorem dX1_become_64 : decode cX1_become 64 = .ok (.bipush 8, 2) := by decide +kernel
theorem dX1_become_66 : decode cX1_become 66 = .ok (.invokestatic 105, 3) := by decide +kernel
theorem dX1_become_69 : decode cX1_become 69 = .ok (.return_, 1) := by decide +kernel
set_option maxRecDepth 20000 in
theorem ggX1_summarise_X1_summariseBlock : GoodIn wsX1_summarise wsX1_summariseBlock := goodIn_r _ [5, 6, 7, 8, 9, 10, 11, 12, 13, 14, 15, 16, 17, 18, 19, 4, 20, 21, 22, 23, 24, 25, 26, 27, 28] (by decide +kernel) (by decide +kernel)
set_option maxRecDepth 20000 in
theorem gX1_summarise_X1_summariseBlock : GoodIn wsX1_summarise (wsV RX1 111 RX1 yX1_summariseBlock wsX1_summariseBlock) := goodIn_app (goodIn_of _ (by decide +kernel)) ggX1_summarise_X1_summariseBlock
theorem dX1_summarise_0 : decode cX1_summarise 0 = .ok (.iload_n 1, 1) := by decide +kernel
theorem dX1_summarise_1 : decode cX1_summarise 1 = .ok (.bipush 16, 2) := by decide +kernel
theorem dX1_summarise_3 : decode cX1_summarise 3 = .ok (.idiv, 1) := by decide +kernel
theorem dX1_summarise_4 : decode cX1_summarise 4 = .ok (.istore_n 2, 1) := by decide +kernel
theorem dX1_summarise_5 : decode cX1_summarise 5 = .ok (.iload_n 2, 1) := by decide +kernel
theorem dX1_summarise_6 : decode cX1_summarise 6 = .ok (.bipush 8, 2) := by decide +kernel
theorem dX1_summarise_8 : decode cX1_summarise 8 = .ok (.if_icmp .ge 14, 3) := by decide +kernel
theorem dX1_summarise_11 : decode cX1_summarise 11 = .ok (.aload_n 0, 1) := by decide +kernel
theorem dX1_summarise_12 : decode cX1_summarise 12 = .ok (.iload_n 2, 1) := by decide +kernel
theorem dX1_summarise_13 : decode cX1_summarise 13 = .ok (.invokevirtual 111, 3) := by decide +kernel
theorem dX1_summarise_16 : decode cX1_summarise 16 = .ok (.iinc 2 1, 3) := by decide +kernel
theorem dX1_summarise_19 : decode cX1_summarise 19 = .ok (.goto (-14), 3) := by decide +kernel
theorem dX1_summarise_22 : decode cX1_summarise 22 = .ok (.return_, 1) := by decide +kernel
set_option maxRecDepth 20000 in
theorem ggX1_summariseBlock_X1_stepAt : GoodIn wsX1_summariseBlock wsX1_stepAt := goodIn_r _ [16, 17, 18, 19, 20, 21, 22, 23, 24] (by decide +kernel) (by decide +kernel)
set_option maxRecDepth 20000 in
theorem gX1_summariseBlock_X1_stepAt : GoodIn wsX1_summariseBlock (wsV RX1 74 RX1 yX1_stepAt wsX1_stepAt) := goodIn_app (goodIn_of _ (by decide +kernel)) ggX1_summariseBlock_X1_stepAt
theorem dX1_summariseBlock_0 : decode cX1_summariseBlock 0 = .ok (.iconst 0, 1) := by decide +kernel
theorem dX1_summariseBlock_1 : decode cX1_summariseBlock 1 = .ok (.istore_n 2, 1) := by decide +kernel
theorem dX1_summariseBlock_2 : decode cX1_summariseBlock 2 = .ok (.bipush 16, 2) := by decide +kernel
theorem dX1_summariseBlock_4 : decode cX1_summariseBlock 4 = .ok (.istore_n 3, 1) := by decide +kernel
theorem dX1_summariseBlock_5 : decode cX1_summariseBlock 5 = .ok (.bipush (-16), 2) := by decide +kernel
theorem dX1_summariseBlock_7 : decode cX1_summariseBlock 7 = .ok (.istore 4, 2) := by decide +kernel
theorem dX1_summariseBlock_9 : decode cX1_summariseBlock 9 = .ok (.aload_n 0, 1) := by decide +kernel
theorem dX1_summariseBlock_10 : decode cX1_summariseBlock 10 = .ok (.getfield 21, 3) := by decide +kernel
theorem dX1_summariseBlock_13 : decode cX1_summariseBlock 13 = .ok (.bipush 16, 2) := by decide +kernel
theorem dX1_summariseBlock_15 : decode cX1_summariseBlock 15 = .ok (.iload_n 1, 1) := by decide +kernel
theorem dX1_summariseBlock_16 : decode cX1_summariseBlock 16 = .ok (.imul, 1) := by decide +kernel
theorem dX1_summariseBlock_17 : decode cX1_summariseBlock 17 = .ok (.bipush 16, 2) := by decide +kernel
theorem dX1_summariseBlock_19 : decode cX1_summariseBlock 19 = .ok (.iadd, 1) := by decide +kernel
theorem dX1_summariseBlock_20 : decode cX1_summariseBlock 20 = .ok (.invokestatic 92, 3) := by decide +kernel
theorem dX1_summariseBlock_23 : decode cX1_summariseBlock 23 = .ok (.istore 5, 2) := by decide +kernel
theorem dX1_summariseBlock_25 : decode cX1_summariseBlock 25 = .ok (.bipush 16, 2) := by decide +kernel
theorem dX1_summariseBlock_27 : decode cX1_summariseBlock 27 = .ok (.iload_n 1, 1) := by decide +kernel
theorem dX1_summariseBlock_28 : decode cX1_summariseBlock 28 = .ok (.imul, 1) := by decide +kernel
theorem dX1_summariseBlock_29 : decode cX1_summariseBlock 29 = .ok (.istore 6, 2) := by decide +kernel
theorem dX1_summariseBlock_31 : decode cX1_summariseBlock 31 = .ok (.iload 6, 2) := by decide +kernel
theorem dX1_summariseBlock_33 : decode cX1_summariseBlock 33 = .ok (.iload 5, 2) := by decide +kernel
theorem dX1_summariseBlock_35 : decode cX1_summariseBlock 35 = .ok (.if_icmp .ge 32, 3) := by decide +kernel
theorem dX1_summariseBlock_38 : decode cX1_summariseBlock 38 = .ok (.iload_n 2, 1) := by decide +kernel
theorem dX1_summariseBlock_39 : decode cX1_summariseBlock 39 = .ok (.aload_n 0, 1) := by decide +kernel
theorem dX1_summariseBlock_40 : decode cX1_summariseBlock 40 = .ok (.iload 6, 2) := by decide +kernel
theorem dX1_summariseBlock_42 : decode cX1_summariseBlock 42 = .ok (.invokevirtual 74, 3) := by decide +kernel
theorem dX1_summariseBlock_45 : decode cX1_summariseBlock 45 = .ok (.iadd, 1) := by decide +kernel
theorem dX1_summariseBlock_46 : decode cX1_summariseBlock 46 = .ok (.istore_n 2, 1) := by decide +kernel
theorem dX1_summariseBlock_47 : decode cX1_summariseBlock 47 = .ok (.iload_n 3, 1) := by decide +kernel
theorem dX1_summariseBlock_48 : decode cX1_summariseBlock 48 = .ok (.iload_n 2, 1) := by decide +kernel
theorem dX1_summariseBlock_49 : decode cX1_summariseBlock 49 = .ok (.invokestatic 92, 3) := by decide +kernel
theorem dX1_summariseBlock_52 : decode cX1_summariseBlock 52 = .ok (.istore_n 3, 1) := by decide +kernel
theorem dX1_summariseBlock_53 : decode cX1_summariseBlock 53 = .ok (.iload 4, 2) := by decide +kernel
theorem dX1_summariseBlock_55 : decode cX1_summariseBlock 55 = .ok (.iload_n 2, 1) := by decide +kernel
theorem dX1_summariseBlock_56 : decode cX1_summariseBlock 56 = .ok (.invokestatic 87, 3) := by decide +kernel
theorem dX1_summariseBlock_59 : decode cX1_summariseBlock 59 = .ok (.istore 4, 2) := by decide +kernel
theorem dX1_summariseBlock_61 : decode cX1_summariseBlock 61 = .ok (.iinc 6 1, 3) := by decide +kernel
theorem dX1_summariseBlock_64 : decode cX1_summariseBlock 64 = .ok (.goto (-33), 3) := by decide +kernel
theorem dX1_summariseBlock_67 : decode cX1_summariseBlock 67 = .ok (.aload_n 0, 1) := by decide +kernel
theorem dX1_summariseBlock_68 : decode cX1_summariseBlock 68 = .ok (.getfield 9, 3) := by decide +kernel
theorem dX1_summariseBlock_71 : decode cX1_summariseBlock 71 = .ok (.iload_n 1, 1) := by decide +kernel
theorem dX1_summariseBlock_72 : decode cX1_summariseBlock 72 = .ok (.iload_n 2, 1) := by decide +kernel
theorem dX1_summariseBlock_73 : decode cX1_summariseBlock 73 = .ok (.iastore, 1) := by decide +kernel
theorem dX1_summariseBlock_74 : decode cX1_summariseBlock 74 = .ok (.aload_n 0, 1) := by decide +kernel
theorem dX1_summariseBlock_75 : decode cX1_summariseBlock 75 = .ok (.getfield 15, 3) := by decide +kernel
theorem dX1_summariseBlock_78 : decode cX1_summariseBlock 78 = .ok (.iload_n 1, 1) := by decide +kernel
theorem dX1_summariseBlock_79 : decode cX1_summariseBlock 79 = .ok (.iload_n 3, 1) := by decide +kernel
theorem dX1_summariseBlock_80 : decode cX1_summariseBlock 80 = .ok (.iastore, 1) := by decide +kernel
theorem dX1_summariseBlock_81 : decode cX1_summariseBlock 81 = .ok (.aload_n 0, 1) := by decide +kernel
theorem dX1_summariseBlock_82 : decode cX1_summariseBlock 82 = .ok (.getfield 18, 3) := by decide +kernel
theorem dX1_summariseBlock_85 : decode cX1_summariseBlock 85 = .ok (.iload_n 1, 1) := by decide +kernel
theorem dX1_summariseBlock_86 : decode cX1_summariseBlock 86 = .ok (.iload 4, 2) := by decide +kernel
theorem dX1_summariseBlock_88 : decode cX1_summariseBlock 88 = .ok (.iastore, 1) := by decide +kernel
theorem dX1_summariseBlock_89 : decode cX1_summariseBlock 89 = .ok (.return_, 1) := by decide +kernel
theorem dX2_init_0 : decode cX2_init 0 = .ok (.aload_n 0, 1) := by decide +kernel
theorem dX2_init_1 : decode cX2_init 1 = .ok (.invokespecial 3, 3) := by decide +kernel
theorem dX2_init_4 : decode cX2_init 4 = .ok (.aload_n 0, 1) := by decide +kernel
theorem dX2_init_5 : decode cX2_init 5 = .ok (.bipush 40, 2) := by decide +kernel
theorem dX2_init_7 : decode cX2_init 7 = .ok (.newarray .long, 2) := by decide +kernel
theorem dX2_init_9 : decode cX2_init 9 = .ok (.putfield 9, 3) := by decide +kernel
theorem dX2_init_12 : decode cX2_init 12 = .ok (.aload_n 0, 1) := by decide +kernel
theorem dX2_init_13 : decode cX2_init 13 = .ok (.iconst (-1), 1) := by decide +kernel
theorem dX2_init_14 : decode cX2_init 14 = .ok (.putfield 15, 3) := by decide +kernel
theorem dX2_init_17 : decode cX2_init 17 = .ok (.return_, 1) := by decide +kernel
theorem dX2_isNothing_0 : decode cX2_isNothing 0 = .ok (.aload_n 0, 1) := by decide +kernel
theorem dX2_isNothing_1 : decode cX2_isNothing 1 = .ok (.getfield 15, 3) := by decide +kernel
theorem dX2_isNothing_4 : decode cX2_isNothing 4 = .ok (.iconst (-1), 1) := by decide +kernel
theorem dX2_isNothing_5 : decode cX2_isNothing 5 = .ok (.if_icmp .ne 7, 3) := by decide +kernel
theorem dX2_isNothing_8 : decode cX2_isNothing 8 = .ok (.iconst 1, 1) := by decide +kernel
theorem dX2_isNothing_9 : decode cX2_isNothing 9 = .ok (.goto 4, 3) := by decide +kernel
theorem dX2_isNothing_12 : decode cX2_isNothing 12 = .ok (.iconst 0, 1) := by decide +kernel
theorem dX2_isNothing_13 : decode cX2_isNothing 13 = .ok (.ireturn, 1) := by decide +kernel
theorem dX2_hasCell_0 : decode cX2_hasCell 0 = .ok (.iload_n 1, 1) := by decide +kernel
theorem dX2_hasCell_1 : decode cX2_hasCell 1 = .ok (.ifCond .lt 15, 3) := by decide +kernel
theorem dX2_hasCell_4 : decode cX2_hasCell 4 = .ok (.iload_n 1, 1) := by decide +kernel
theorem dX2_hasCell_5 : decode cX2_hasCell 5 = .ok (.aload_n 0, 1) := by decide +kernel
theorem dX2_hasCell_6 : decode cX2_hasCell 6 = .ok (.getfield 19, 3) := by decide +kernel
theorem dX2_hasCell_9 : decode cX2_hasCell 9 = .ok (.if_icmp .ge 7, 3) := by decide +kernel
theorem dX2_hasCell_12 : decode cX2_hasCell 12 = .ok (.iconst 1, 1) := by decide +kernel
theorem dX2_hasCell_13 : decode cX2_hasCell 13 = .ok (.goto 4, 3) := by decide +kernel
theorem dX2_hasCell_16 : decode cX2_hasCell 16 = .ok (.iconst 0, 1) := by decide +kernel
theorem dX2_hasCell_17 : decode cX2_hasCell 17 = .ok (.ireturn, 1) := by decide +kernel
theorem dX2_renew_0 : decode cX2_renew 0 = .ok (.aload_n 0, 1) := by decide +kernel
theorem dX2_renew_1 : decode cX2_renew 1 = .ok (.iload_n 1, 1) := by decide +kernel
theorem dX2_renew_2 : decode cX2_renew 2 = .ok (.putfield 15, 3) := by decide +kernel
theorem dX2_renew_5 : decode cX2_renew 5 = .ok (.aload_n 0, 1) := by decide +kernel
theorem dX2_renew_6 : decode cX2_renew 6 = .ok (.iload_n 2, 1) := by decide +kernel
theorem dX2_renew_7 : decode cX2_renew 7 = .ok (.putfield 19, 3) := by decide +kernel
theorem dX2_renew_10 : decode cX2_renew 10 = .ok (.iconst 0, 1) := by decide +kernel
theorem dX2_renew_11 : decode cX2_renew 11 = .ok (.istore_n 3, 1) := by decide +kernel
theorem dX2_renew_12 : decode cX2_renew 12 = .ok (.iload_n 3, 1) := by decide +kernel
theorem dX2_renew_13 : decode cX2_renew 13 = .ok (.bipush 40, 2) := by decide +kernel
theorem dX2_renew_15 : decode cX2_renew 15 = .ok (.if_icmp .ge 16, 3) := by decide +kernel
theorem dX2_renew_18 : decode cX2_renew 18 = .ok (.aload_n 0, 1) := by decide +kernel
theorem dX2_renew_19 : decode cX2_renew 19 = .ok (.getfield 9, 3) := by decide +kernel
theorem dX2_renew_22 : decode cX2_renew 22 = .ok (.iload_n 3, 1) := by decide +kernel
theorem dX2_renew_23 : decode cX2_renew 23 = .ok (.lconst 0, 1) := by decide +kernel
theorem dX2_renew_24 : decode cX2_renew 24 = .ok (.lastore, 1) := by decide +kernel
theorem dX2_renew_25 : decode cX2_renew 25 = .ok (.iinc 3 1, 3) := by decide +kernel
theorem dX2_renew_28 : decode cX2_renew 28 = .ok (.goto (-16), 3) := by decide +kernel
theorem dX2_renew_31 : decode cX2_renew 31 = .ok (.return_, 1) := by decide +kernel
theorem dX2_put_0 : decode cX2_put 0 = .ok (.aload_n 0, 1) := by decide +kernel
theorem dX2_put_1 : decode cX2_put 1 = .ok (.getfield 15, 3) := by decide +kernel
theorem dX2_put_4 : decode cX2_put 4 = .ok (.ifCond .ne 16, 3) := by decide +kernel
theorem dX2_put_7 : decode cX2_put 7 = .ok (.aload_n 0, 1) := by decide +kernel
theorem dX2_put_8 : decode cX2_put 8 = .ok (.getfield 9, 3) := by decide +kernel
theorem dX2_put_11 : decode cX2_put 11 = .ok (.iload_n 1, 1) := by decide +kernel
theorem dX2_put_12 : decode cX2_put 12 = .ok (.lload_n 2, 1) := by decide +kernel
theorem dX2_put_13 : decode cX2_put 13 = .ok (.l2i, 1) := by decide +kernel
theorem dX2_put_14 : decode cX2_put 14 = .ok (.i2b, 1) := by decide +kernel
theorem dX2_put_15 : decode cX2_put 15 = .ok (.i2l, 1) := by decide +kernel
theorem dX2_put_16 : decode cX2_put 16 = .ok (.lastore, 1) := by decide +kernel
theorem dX2_put_17 : decode cX2_put 17 = .ok (.goto 30, 3) := by decide +kernel
theorem dX2_put_20 : decode cX2_put 20 = .ok (.aload_n 0, 1) := by decide +kernel
theorem dX2_put_21 : decode cX2_put 21 = .ok (.getfield 15, 3) := by decide +kernel
theorem dX2_put_24 : decode cX2_put 24 = .ok (.iconst 1, 1) := by decide +kernel
theorem dX2_put_25 : decode cX2_put 25 = .ok (.if_icmp .ne 15, 3) := by decide +kernel
theorem dX2_put_28 : decode cX2_put 28 = .ok (.aload_n 0, 1) := by decide +kernel
theorem dX2_put_29 : decode cX2_put 29 = .ok (.getfield 9, 3) := by decide +kernel
theorem dX2_put_32 : decode cX2_put 32 = .ok (.iload_n 1, 1) := by decide +kernel
theorem dX2_put_33 : decode cX2_put 33 = .ok (.lload_n 2, 1) := by decide +kernel
theorem dX2_put_34 : decode cX2_put 34 = .ok (.l2i, 1) := by decide +kernel
theorem dX2_put_35 : decode cX2_put 35 = .ok (.i2l, 1) := by decide +kernel
theorem dX2_put_36 : decode cX2_put 36 = .ok (.lastore, 1) := by decide +kernel
theorem dX2_put_37 : decode cX2_put 37 = .ok (.goto 10, 3) := by decide +kernel
theorem dX2_put_40 : decode cX2_put 40 = .ok (.aload_n 0, 1) := by decide +kernel
theorem dX2_put_41 : decode cX2_put 41 = .ok (.getfield 9, 3) := by decide +kernel
theorem dX2_put_44 : decode cX2_put 44 = .ok (.iload_n 1, 1) := by decide +kernel
theorem dX2_put_45 : decode cX2_put 45 = .ok (.lload_n 2, 1) := by decide +kernel
theorem dX2_put_46 : decode cX2_put 46 = .ok (.lastore, 1) := by decide +kernel
theorem dX2_put_47 : decode cX2_put 47 = .ok (.return_, 1) := by decide +kernel
theorem dX2_bitsOfCell_0 : decode cX2_bitsOfCell 0 = .ok (.aload_n 0, 1) := by decide +kernel
theorem dX2_bitsOfCell_1 : decode cX2_bitsOfCell 1 = .ok (.getfield 15, 3) := by decide +kernel
theorem dX2_bitsOfCell_4 : decode cX2_bitsOfCell 4 = .ok (.ifCond .ne 6, 3) := by decide +kernel
theorem dX2_bitsOfCell_7 : decode cX2_bitsOfCell 7 = .ok (.bipush 8, 2) := by decide +kernel
theorem dX2_bitsOfCell_9 : decode cX2_bitsOfCell 9 = .ok (.ireturn, 1) := by decide +kernel
theorem dX2_bitsOfCell_10 : decode cX2_bitsOfCell 10 = .ok (.aload_n 0, 1) := by decide +kernel
theorem dX2_bitsOfCell_11 : decode cX2_bitsOfCell 11 = .ok (.getfield 15, 3) := by decide +kernel
theorem dX2_bitsOfCell_14 : decode cX2_bitsOfCell 14 = .ok (.iconst 1, 1) := by decide +kernel
theorem dX2_bitsOfCell_15 : decode cX2_bitsOfCell 15 = .ok (.if_icmp .ne 8, 3) := by decide +kernel
theorem dX2_bitsOfCell_18 : decode cX2_bitsOfCell 18 = .ok (.bipush 32, 2) := by decide +kernel
theorem dX2_bitsOfCell_20 : decode cX2_bitsOfCell 20 = .ok (.goto 5, 3) := by decide +kernel
theorem dX2_bitsOfCell_23 : decode cX2_bitsOfCell 23 = .ok (.bipush 64, 2) := by decide +kernel
theorem dX2_bitsOfCell_25 : decode cX2_bitsOfCell 25 = .ok (.ireturn, 1) := by decide +kernel
set_option maxRecDepth 20000 in
theorem ggX2_faultOfBit_X2_isNothing : GoodIn wsX2_faultOfBit wsX2_isNothing := goodIn_r _ [7, 1, 12, 13, 14] (by decide +kernel) (by decide +kernel)
set_option maxRecDepth 20000 in
theorem gX2_faultOfBit_X2_isNothing : GoodIn wsX2_faultOfBit (wsV RX2 22 RX2 yX2_isNothing wsX2_isNothing) := goodIn_app (goodIn_of _ (by decide +kernel)) ggX2_faultOfBit_X2_isNothing
set_option maxRecDepth 20000 in
theorem ggX2_faultOfBit_X2_bitsOfCell : GoodIn wsX2_faultOfBit wsX2_bitsOfCell := goodIn_r _ [11, 1, 12, 13, 14] (by decide +kernel) (by decide +kernel)
set_option maxRecDepth 20000 in
theorem gX2_faultOfBit_X2_bitsOfCell : GoodIn wsX2_faultOfBit (wsV RX2 26 RX2 yX2_bitsOfCell wsX2_bitsOfCell) := goodIn_app (goodIn_of _ (by decide +kernel)) ggX2_faultOfBit_X2_bitsOfCell
theorem dX2_faultOfBit_0 : decode cX2_faultOfBit 0 = .ok (.aload_n 0, 1) := by decide +kernel
theorem dX2_faultOfBit_1 : decode cX2_faultOfBit 1 = .ok (.invokevirtual 22, 3) := by decide +kernel
theorem dX2_faultOfBit_4 : decode cX2_faultOfBit 4 = .ok (.ifCond .eq 5, 3) := by decide +kernel
theorem dX2_faultOfBit_7 : decode cX2_faultOfBit 7 = .ok (.iconst 1, 1) := by decide +kernel
theorem dX2_faultOfBit_8 : decode cX2_faultOfBit 8 = .ok (.ireturn, 1) := by decide +kernel
theorem dX2_faultOfBit_9 : decode cX2_faultOfBit 9 = .ok (.aload_n 0, 1) := by decide +kernel
theorem dX2_faultOfBit_10 : decode cX2_faultOfBit 10 = .ok (.getfield 15, 3) := by decide +kernel
theorem dX2_faultOfBit_13 : decode cX2_faultOfBit 13 = .ok (.iload_n 1, 1) := by decide +kernel
theorem dX2_faultOfBit_14 : decode cX2_faultOfBit 14 = .ok (.if_icmp .eq 5, 3) := by decide +kernel
theorem dX2_faultOfBit_17 : decode cX2_faultOfBit 17 = .ok (.iconst 3, 1) := by decide +kernel
theorem dX2_faultOfBit_18 : decode cX2_faultOfBit 18 = .ok (.ireturn, 1) := by decide +kernel
theorem dX2_faultOfBit_19 : decode cX2_faultOfBit 19 = .ok (.lload_n 2, 1) := by decide +kernel
theorem dX2_faultOfBit_20 : decode cX2_faultOfBit 20 = .ok (.aload_n 0, 1) := by decide +kernel
theorem dX2_faultOfBit_21 : decode cX2_faultOfBit 21 = .ok (.invokevirtual 26, 3) := by decide +kernel
theorem dX2_faultOfBit_24 : decode cX2_faultOfBit 24 = .ok (.i2l, 1) := by decide +kernel
theorem dX2_faultOfBit_25 : decode cX2_faultOfBit 25 = .ok (.ldiv, 1) := by decide +kernel
theorem dX2_faultOfBit_26 : decode cX2_faultOfBit 26 = .ok (.aload_n 0, 1) := by decide +kernel
theorem dX2_faultOfBit_27 : decode cX2_faultOfBit 27 = .ok (.getfield 19, 3) := by decide +kernel
theorem dX2_faultOfBit_30 : decode cX2_faultOfBit 30 = .ok (.i2l, 1) := by decide +kernel
theorem dX2_faultOfBit_31 : decode cX2_faultOfBit 31 = .ok (.lcmp, 1) := by decide +kernel
theorem dX2_faultOfBit_32 : decode cX2_faultOfBit 32 = .ok (.ifCond .ge 7, 3) := by decide +kernel
theorem dX2_faultOfBit_35 : decode cX2_faultOfBit 35 = .ok (.iconst 0, 1) := by decide +kernel
theorem dX2_faultOfBit_36 : decode cX2_faultOfBit 36 = .ok (.goto 4, 3) := by decide +kernel
theorem dX2_faultOfBit_39 : decode cX2_faultOfBit 39 = .ok (.iconst 2, 1) := by decide +kernel
theorem dX2_faultOfBit_40 : decode cX2_faultOfBit 40 = .ok (.ireturn, 1) := by decide +kernel
set_option maxRecDepth 20000 in
theorem ggX2_bitAt_X2_bitsOfCell : GoodIn wsX2_bitAt wsX2_bitsOfCell := goodIn_r _ [6, 7, 8, 9, 10] (by decide +kernel) (by decide +kernel)
set_option maxRecDepth 20000 in
theorem gX2_bitAt_X2_bitsOfCell : GoodIn wsX2_bitAt (wsV RX2 26 RX2 yX2_bitsOfCell wsX2_bitsOfCell) := goodIn_app (goodIn_of _ (by decide +kernel)) ggX2_bitAt_X2_bitsOfCell
theorem dX2_bitAt_0 : decode cX2_bitAt 0 = .ok (.aload_n 0, 1) := by decide +kernel
theorem dX2_bitAt_1 : decode cX2_bitAt 1 = .ok (.invokevirtual 26, 3) := by decide +kernel
theorem dX2_bitAt_4 : decode cX2_bitAt 4 = .ok (.istore_n 2, 1) := by decide +kernel
theorem dX2_bitAt_5 : decode cX2_bitAt 5 = .ok (.aload_n 0, 1) := by decide +kernel
theorem dX2_bitAt_6 : decode cX2_bitAt 6 = .ok (.getfield 9, 3) := by decide +kernel
theorem dX2_bitAt_9 : decode cX2_bitAt 9 = .ok (.iload_n 1, 1) := by decide +kernel
theorem dX2_bitAt_10 : decode cX2_bitAt 10 = .ok (.iload_n 2, 1) := by decide +kernel
theorem dX2_bitAt_11 : decode cX2_bitAt 11 = .ok (.idiv, 1) := by decide +kernel
theorem dX2_bitAt_12 : decode cX2_bitAt 12 = .ok (.laload, 1) := by decide +kernel
theorem dX2_bitAt_13 : decode cX2_bitAt 13 = .ok (.iload_n 1, 1) := by decide +kernel
theorem dX2_bitAt_14 : decode cX2_bitAt 14 = .ok (.iload_n 2, 1) := by decide +kernel
theorem dX2_bitAt_15 : decode cX2_bitAt 15 = .ok (.irem, 1) := by decide +kernel
theorem dX2_bitAt_16 : decode cX2_bitAt 16 = .ok (.lushr, 1) := by decide +kernel
theorem dX2_bitAt_17 : decode cX2_bitAt 17 = .ok (.l2i, 1) := by decide +kernel
theorem dX2_bitAt_18 : decode cX2_bitAt 18 = .ok (.iconst 1, 1) := by decide +kernel
theorem dX2_bitAt_19 : decode cX2_bitAt 19 = .ok (.iand, 1) := by decide +kernel
theorem dX2_bitAt_20 : decode cX2_bitAt 20 = .ok (.ireturn, 1) := by decide +kernel
set_option maxRecDepth 20000 in
theorem ggX2_putBit_X2_bitsOfCell : GoodIn wsX2_putBit wsX2_bitsOfCell := goodIn_r _ [7, 8, 13, 14, 15] (by decide +kernel) (by decide +kernel)
set_option maxRecDepth 20000 in
theorem gX2_putBit_X2_bitsOfCell : GoodIn wsX2_putBit (wsV RX2 26 RX2 yX2_bitsOfCell wsX2_bitsOfCell) := goodIn_app (goodIn_of _ (by decide +kernel)) ggX2_putBit_X2_bitsOfCell
set_option maxRecDepth 20000 in
theorem ggX2_putBit_X2_put : GoodIn wsX2_putBit wsX2_put := goodIn_r _ [12, 8, 1, 13, 14, 15] (by decide +kernel) (by decide +kernel)
set_option maxRecDepth 20000 in
theorem gX2_putBit_X2_put : GoodIn wsX2_putBit (wsV RX2 32 RX2 yX2_put wsX2_put) := goodIn_app (goodIn_of _ (by decide +kernel)) ggX2_putBit_X2_put
theorem dX2_putBit_0 : decode cX2_putBit 0 = .ok (.iload_n 1, 1) := by decide +kernel
theorem dX2_putBit_1 : decode cX2_putBit 1 = .ok (.aload_n 0, 1) := by decide +kernel
theorem dX2_putBit_2 : decode cX2_putBit 2 = .ok (.invokevirtual 26, 3) := by decide +kernel
theorem dX2_putBit_5 : decode cX2_putBit 5 = .ok (.idiv, 1) := by decide +kernel
theorem dX2_putBit_6 : decode cX2_putBit 6 = .ok (.istore_n 3, 1) := by decide +kernel
theorem dX2_putBit_7 : decode cX2_putBit 7 = .ok (.lconst 1, 1) := by decide +kernel
theorem dX2_putBit_8 : decode cX2_putBit 8 = .ok (.iload_n 1, 1) := by decide +kernel
theorem dX2_putBit_9 : decode cX2_putBit 9 = .ok (.aload_n 0, 1) := by decide +kernel
theorem dX2_putBit_10 : decode cX2_putBit 10 = .ok (.invokevirtual 26, 3) := by decide +kernel
theorem dX2_putBit_13 : decode cX2_putBit 13 = .ok (.irem, 1) := by decide +kernel
theorem dX2_putBit_14 : decode cX2_putBit 14 = .ok (.lshl, 1) := by decide +kernel
theorem dX2_putBit_15 : decode cX2_putBit 15 = .ok (.lstore 4, 2) := by decide +kernel
theorem dX2_putBit_17 : decode cX2_putBit 17 = .ok (.aload_n 0, 1) := by decide +kernel
theorem dX2_putBit_18 : decode cX2_putBit 18 = .ok (.iload_n 3, 1) := by decide +kernel
theorem dX2_putBit_19 : decode cX2_putBit 19 = .ok (.iload_n 2, 1) := by decide +kernel
theorem dX2_putBit_20 : decode cX2_putBit 20 = .ok (.iconst 1, 1) := by decide +kernel
theorem dX2_putBit_21 : decode cX2_putBit 21 = .ok (.if_icmp .ne 15, 3) := by decide +kernel
theorem dX2_putBit_24 : decode cX2_putBit 24 = .ok (.aload_n 0, 1) := by decide +kernel
theorem dX2_putBit_25 : decode cX2_putBit 25 = .ok (.getfield 9, 3) := by decide +kernel
theorem dX2_putBit_28 : decode cX2_putBit 28 = .ok (.iload_n 3, 1) := by decide +kernel
theorem dX2_putBit_29 : decode cX2_putBit 29 = .ok (.laload, 1) := by decide +kernel
theorem dX2_putBit_30 : decode cX2_putBit 30 = .ok (.lload 4, 2) := by decide +kernel
theorem dX2_putBit_32 : decode cX2_putBit 32 = .ok (.lor, 1) := by decide +kernel
theorem dX2_putBit_33 : decode cX2_putBit 33 = .ok (.goto 16, 3) := by decide +kernel
theorem dX2_putBit_36 : decode cX2_putBit 36 = .ok (.aload_n 0, 1) := by decide +kernel
theorem dX2_putBit_37 : decode cX2_putBit 37 = .ok (.getfield 9, 3) := by decide +kernel
theorem dX2_putBit_40 : decode cX2_putBit 40 = .ok (.iload_n 3, 1) := by decide +kernel
theorem dX2_putBit_41 : decode cX2_putBit 41 = .ok (.laload, 1) := by decide +kernel
theorem dX2_putBit_42 : decode cX2_putBit 42 = .ok (.lload 4, 2) := by decide +kernel
theorem dX2_putBit_44 : decode cX2_putBit 44 = .ok (.ldc2_w 30, 3) := by decide +kernel
theorem dX2_putBit_47 : decode cX2_putBit 47 = .ok (.lxor, 1) := by decide +kernel
theorem dX2_putBit_48 : decode cX2_putBit 48 = .ok (.land, 1) := by decide +kernel
theorem dX2_putBit_49 : decode cX2_putBit 49 = .ok (.invokevirtual 32, 3) := by decide +kernel
theorem dX2_putBit_52 : decode cX2_putBit 52 = .ok (.return_, 1) := by decide +kernel
theorem dX3_init_0 : decode cX3_init 0 = .ok (.aload_n 0, 1) := by decide +kernel
theorem dX3_init_1 : decode cX3_init 1 = .ok (.invokespecial 3, 3) := by decide +kernel
theorem dX3_init_4 : decode cX3_init 4 = .ok (.aload_n 0, 1) := by decide +kernel
theorem dX3_init_5 : decode cX3_init 5 = .ok (.sipush 160, 3) := by decide +kernel
theorem dX3_init_8 : decode cX3_init 8 = .ok (.newarray .byte, 2) := by decide +kernel
theorem dX3_init_10 : decode cX3_init 10 = .ok (.putfield 9, 3) := by decide +kernel
theorem dX3_init_13 : decode cX3_init 13 = .ok (.return_, 1) := by decide +kernel
theorem dX3_put_0 : decode cX3_put 0 = .ok (.aload_n 0, 1) := by decide +kernel
theorem dX3_put_1 : decode cX3_put 1 = .ok (.getfield 15, 3) := by decide +kernel
theorem dX3_put_4 : decode cX3_put 4 = .ok (.sipush 160, 3) := by decide +kernel
theorem dX3_put_7 : decode cX3_put 7 = .ok (.if_icmp .lt 5, 3) := by decide +kernel
theorem dX3_put_10 : decode cX3_put 10 = .ok (.iconst 0, 1) := by decide +kernel
theorem dX3_put_11 : decode cX3_put 11 = .ok (.ireturn, 1) := by decide +kernel
theorem dX3_put_12 : decode cX3_put 12 = .ok (.aload_n 0, 1) := by decide +kernel
theorem dX3_put_13 : decode cX3_put 13 = .ok (.getfield 9, 3) := by decide +kernel
theorem dX3_put_16 : decode cX3_put 16 = .ok (.aload_n 0, 1) := by decide +kernel
theorem dX3_put_17 : decode cX3_put 17 = .ok (.getfield 15, 3) := by decide +kernel
theorem dX3_put_20 : decode cX3_put 20 = .ok (.iload_n 1, 1) := by decide +kernel
theorem dX3_put_21 : decode cX3_put 21 = .ok (.i2b, 1) := by decide +kernel
theorem dX3_put_22 : decode cX3_put 22 = .ok (.bastore, 1) := by decide +kernel
theorem dX3_put_23 : decode cX3_put 23 = .ok (.aload_n 0, 1) := by decide +kernel
theorem dX3_put_24 : decode cX3_put 24 = .ok (.dup, 1) := by decide +kernel
theorem dX3_put_25 : decode cX3_put 25 = .ok (.getfield 15, 3) := by decide +kernel
theorem dX3_put_28 : decode cX3_put 28 = .ok (.iconst 1, 1) := by decide +kernel
theorem dX3_put_29 : decode cX3_put 29 = .ok (.iadd, 1) := by decide +kernel
theorem dX3_put_30 : decode cX3_put 30 = .ok (.putfield 15, 3) := by decide +kernel
theorem dX3_put_33 : decode cX3_put 33 = .ok (.iconst 1, 1) := by decide +kernel
theorem dX3_put_34 : decode cX3_put 34 = .ok (.ireturn, 1) := by decide +kernel
set_option maxRecDepth 20000 in
theorem ggX3_tell_X1_clear : GoodIn wsX3_tell wsX1_clear := goodIn_r _ [8, 9, 10, 11, 91, 92, 93, 94, 95, 96] (by decide +kernel) (by decide +kernel)
set_option maxRecDepth 20000 in
theorem gX3_tell_X1_clear : GoodIn wsX3_tell (wsV RX3 25 RX1 yX1_clear wsX1_clear) := goodIn_app (goodIn_of _ (by decide +kernel)) ggX3_tell_X1_clear
set_option maxRecDepth 20000 in
theorem ggX3_tell_X3_nextToken : GoodIn wsX3_tell wsX3_nextToken := goodIn_r _ [16, 1, 2, 17, 18, 19, 20, 15, 21, 22, 23, 24, 25, 26, 85, 86, 87, 88, 89, 90] (by decide +kernel) (by decide +kernel)
set_option maxRecDepth 20000 in
theorem gX3_tell_X3_nextToken : GoodIn wsX3_tell (wsV RX3 33 RX3 yX3_nextToken wsX3_nextToken) := goodIn_app (goodIn_of _ (by decide +kernel)) ggX3_tell_X3_nextToken
set_option maxRecDepth 20000 in
theorem ggX3_tell_X3_faultOf : GoodIn wsX3_tell wsX3_faultOf := goodIn_r _ [30, 31, 32, 33, 7, 34, 35, 36, 37, 38, 9, 10, 39, 40, 41, 42, 43, 44, 45, 46, 47, 48, 49, 50, 51, 91, 92, 93, 94, 95, 96] (by decide +kernel) (by decide +kernel)
set_option maxRecDepth 20000 in
theorem gX3_tell_X3_faultOf : GoodIn wsX3_tell (wsV RX3 37 RX3 yX3_faultOf wsX3_faultOf) := goodIn_app (goodIn_of _ (by decide +kernel)) ggX3_tell_X3_faultOf
set_option maxRecDepth 20000 in
theorem ggX3_tell_X3_take : GoodIn wsX3_tell wsX3_take := goodIn_r _ [55, 26, 56, 57, 58, 7, 59, 11, 9, 10, 31, 32, 33, 34, 35, 36, 37, 38, 39, 40, 41, 42, 43, 44, 45, 46, 47, 48, 49, 50, 82, 83, 84, 91, 92, 93, 94, 95, 96, 85, 86, 87, 88, 89, 90] (by decide +kernel) (by decide +kernel)
set_option maxRecDepth 20000 in
theorem gX3_tell_X3_take : GoodIn wsX3_tell (wsV RX3 44 RX3 yX3_take wsX3_take) := goodIn_app (goodIn_of _ (by decide +kernel)) ggX3_tell_X3_take
set_option maxRecDepth 20000 in
theorem ggX3_tell_X1_summarise : GoodIn wsX3_tell wsX1_summarise := goodIn_r _ [63, 64, 65, 66, 7, 67, 11, 68, 69, 70, 71, 72, 73, 74, 75, 76, 77, 78, 79, 80, 81, 9, 10, 91, 92, 93, 94, 95, 96] (by decide +kernel) (by decide +kernel)
set_option maxRecDepth 20000 in
theorem gX3_tell_X1_summarise : GoodIn wsX3_tell (wsV RX3 48 RX1 yX1_summarise wsX1_summarise) := goodIn_app (goodIn_of _ (by decide +kernel)) ggX3_tell_X1_summarise
theorem dX3_tell_0 : decode cX3_tell 0 = .ok (.aload_n 1, 1) := by decide +kernel
theorem dX3_tell_1 : decode cX3_tell 1 = .ok (.getfield 19, 3) := by decide +kernel
theorem dX3_tell_4 : decode cX3_tell 4 = .ok (.invokevirtual 25, 3) := by decide +kernel
theorem dX3_tell_7 : decode cX3_tell 7 = .ok (.aload_n 0, 1) := by decide +kernel
theorem dX3_tell_8 : decode cX3_tell 8 = .ok (.iconst 0, 1) := by decide +kernel
theorem dX3_tell_9 : decode cX3_tell 9 = .ok (.putfield 30, 3) := by decide +kernel
theorem dX3_tell_12 : decode cX3_tell 12 = .ok (.iconst 0, 1) := by decide +kernel
theorem dX3_tell_13 : decode cX3_tell 13 = .ok (.istore_n 2, 1) := by decide +kernel
theorem dX3_tell_14 : decode cX3_tell 14 = .ok (.iconst 0, 1) := by decide +kernel
theorem dX3_tell_15 : decode cX3_tell 15 = .ok (.istore_n 3, 1) := by decide +kernel
theorem dX3_tell_16 : decode cX3_tell 16 = .ok (.iload_n 3, 1) := by decide +kernel
theorem dX3_tell_17 : decode cX3_tell 17 = .ok (.aload_n 0, 1) := by decide +kernel
theorem dX3_tell_18 : decode cX3_tell 18 = .ok (.getfield 15, 3) := by decide +kernel
theorem dX3_tell_21 : decode cX3_tell 21 = .ok (.if_icmp .gt 55, 3) := by decide +kernel
theorem dX3_tell_24 : decode cX3_tell 24 = .ok (.aload_n 0, 1) := by decide +kernel
theorem dX3_tell_25 : decode cX3_tell 25 = .ok (.invokevirtual 33, 3) := by decide +kernel
theorem dX3_tell_28 : decode cX3_tell 28 = .ok (.istore 4, 2) := by decide +kernel
theorem dX3_tell_30 : decode cX3_tell 30 = .ok (.aload_n 0, 1) := by decide +kernel
theorem dX3_tell_31 : decode cX3_tell 31 = .ok (.aload_n 0, 1) := by decide +kernel
theorem dX3_tell_32 : decode cX3_tell 32 = .ok (.iload 4, 2) := by decide +kernel
theorem dX3_tell_34 : decode cX3_tell 34 = .ok (.iload_n 2, 1) := by decide +kernel
theorem dX3_tell_35 : decode cX3_tell 35 = .ok (.aload_n 1, 1) := by decide +kernel
theorem dX3_tell_36 : decode cX3_tell 36 = .ok (.getfield 19, 3) := by decide +kernel
theorem dX3_tell_39 : decode cX3_tell 39 = .ok (.invokevirtual 37, 3) := by decide +kernel
theorem dX3_tell_42 : decode cX3_tell 42 = .ok (.putfield 41, 3) := by decide +kernel
theorem dX3_tell_45 : decode cX3_tell 45 = .ok (.aload_n 0, 1) := by decide +kernel
theorem dX3_tell_46 : decode cX3_tell 46 = .ok (.getfield 41, 3) := by decide +kernel
theorem dX3_tell_49 : decode cX3_tell 49 = .ok (.ifCond .ne 27, 3) := by decide +kernel
theorem dX3_tell_52 : decode cX3_tell 52 = .ok (.iload 4, 2) := by decide +kernel
theorem dX3_tell_54 : decode cX3_tell 54 = .ok (.ifCond .ne 6, 3) := by decide +kernel
theorem dX3_tell_57 : decode cX3_tell 57 = .ok (.goto 19, 3) := by decide +kernel
theorem dX3_tell_60 : decode cX3_tell 60 = .ok (.aload_n 0, 1) := by decide +kernel
theorem dX3_tell_61 : decode cX3_tell 61 = .ok (.iload 4, 2) := by decide +kernel
theorem dX3_tell_63 : decode cX3_tell 63 = .ok (.aload_n 1, 1) := by decide +kernel
theorem dX3_tell_64 : decode cX3_tell 64 = .ok (.invokevirtual 44, 3) := by decide +kernel
theorem dX3_tell_67 : decode cX3_tell 67 = .ok (.iload 4, 2) := by decide +kernel
theorem dX3_tell_69 : decode cX3_tell 69 = .ok (.istore_n 2, 1) := by decide +kernel
theorem dX3_tell_70 : decode cX3_tell 70 = .ok (.iinc 3 1, 3) := by decide +kernel
theorem dX3_tell_73 : decode cX3_tell 73 = .ok (.goto (-57), 3) := by decide +kernel
theorem dX3_tell_76 : decode cX3_tell 76 = .ok (.aload_n 1, 1) := by decide +kernel
theorem dX3_tell_77 : decode cX3_tell 77 = .ok (.getfield 19, 3) := by decide +kernel
theorem dX3_tell_80 : decode cX3_tell 80 = .ok (.iconst 0, 1) := by decide +kernel
theorem dX3_tell_81 : decode cX3_tell 81 = .ok (.invokevirtual 48, 3) := by decide +kernel
theorem dX3_tell_84 : decode cX3_tell 84 = .ok (.return_, 1) := by decide +kernel
set_option maxRecDepth 20000 in
theorem ggX3_faultOf_X1_opensAhead : GoodIn wsX3_faultOf wsX1_opensAhead := goodIn_r _ [5, 6, 7, 8, 4, 9, 10, 11, 12, 13, 14, 15, 16, 17, 18, 19, 20, 21, 22, 23, 25, 26, 27, 28, 29, 30] (by decide +kernel) (by decide +kernel)
set_option maxRecDepth 20000 in
theorem gX3_faultOf_X1_opensAhead : GoodIn wsX3_faultOf (wsV RX3 55 RX1 yX1_opensAhead wsX1_opensAhead) := goodIn_app (goodIn_of _ (by decide +kernel)) ggX3_faultOf_X1_opensAhead
set_option maxRecDepth 20000 in
theorem ggX3_faultOf_X1_excessAt : GoodIn wsX3_faultOf wsX1_excessAt := goodIn_r _ [9, 10, 11, 12, 13, 14, 15, 16, 17, 18, 19, 20, 21, 22, 23, 25, 26, 27, 28, 29, 30] (by decide +kernel) (by decide +kernel)
set_option maxRecDepth 20000 in
theorem gX3_faultOf_X1_excessAt : GoodIn wsX3_faultOf (wsV RX3 59 RX1 yX1_excessAt wsX1_excessAt) := goodIn_app (goodIn_of _ (by decide +kernel)) ggX3_faultOf_X1_excessAt
theorem dX3_faultOf_0 : decode cX3_faultOf 0 = .ok (.aload_n 3, 1) := by decide +kernel
theorem dX3_faultOf_1 : decode cX3_faultOf 1 = .ok (.aload_n 3, 1) := by decide +kernel
theorem dX3_faultOf_2 : decode cX3_faultOf 2 = .ok (.getfield 52, 3) := by decide +kernel
theorem dX3_faultOf_5 : decode cX3_faultOf 5 = .ok (.invokevirtual 55, 3) := by decide +kernel
theorem dX3_faultOf_8 : decode cX3_faultOf 8 = .ok (.istore 4, 2) := by decide +kernel
theorem dX3_faultOf_10 : decode cX3_faultOf 10 = .ok (.aload_n 3, 1) := by decide +kernel
theorem dX3_faultOf_11 : decode cX3_faultOf 11 = .ok (.aload_n 3, 1) := by decide +kernel
theorem dX3_faultOf_12 : decode cX3_faultOf 12 = .ok (.getfield 52, 3) := by decide +kernel
theorem dX3_faultOf_15 : decode cX3_faultOf 15 = .ok (.invokevirtual 59, 3) := by decide +kernel
theorem dX3_faultOf_18 : decode cX3_faultOf 18 = .ok (.ifCond .le 7, 3) := by decide +kernel
theorem dX3_faultOf_21 : decode cX3_faultOf 21 = .ok (.iconst 1, 1) := by decide +kernel
theorem dX3_faultOf_22 : decode cX3_faultOf 22 = .ok (.goto 4, 3) := by decide +kernel
theorem dX3_faultOf_25 : decode cX3_faultOf 25 = .ok (.iconst 0, 1) := by decide +kernel
theorem dX3_faultOf_26 : decode cX3_faultOf 26 = .ok (.istore 5, 2) := by decide +kernel
theorem dX3_faultOf_28 : decode cX3_faultOf 28 = .ok (.iload_n 1, 1) := by decide +kernel
theorem dX3_faultOf_29 : decode cX3_faultOf 29 = .ok (.lookupswitch 102 #[(0, 43), (1, 54), (40, 66), (41, 91)], 43) := by decide +kernel
theorem dX3_faultOf_72 : decode cX3_faultOf 72 = .ok (.iload 5, 2) := by decide +kernel
theorem dX3_faultOf_74 : decode cX3_faultOf 74 = .ok (.ifCond .eq 7, 3) := by decide +kernel
theorem dX3_faultOf_77 : decode cX3_faultOf 77 = .ok (.iconst 2, 1) := by decide +kernel
theorem dX3_faultOf_78 : decode cX3_faultOf 78 = .ok (.goto 4, 3) := by decide +kernel
theorem dX3_faultOf_81 : decode cX3_faultOf 81 = .ok (.iconst 0, 1) := by decide +kernel
theorem dX3_faultOf_82 : decode cX3_faultOf 82 = .ok (.ireturn, 1) := by decide +kernel
theorem dX3_faultOf_83 : decode cX3_faultOf 83 = .ok (.iload_n 2, 1) := by decide +kernel
theorem dX3_faultOf_84 : decode cX3_faultOf 84 = .ok (.bipush 40, 2) := by decide +kernel
theorem dX3_faultOf_86 : decode cX3_faultOf 86 = .ok (.if_icmp .ne 7, 3) := by decide +kernel
theorem dX3_faultOf_89 : decode cX3_faultOf 89 = .ok (.iconst 0, 1) := by decide +kernel
theorem dX3_faultOf_90 : decode cX3_faultOf 90 = .ok (.goto 4, 3) := by decide +kernel
theorem dX3_faultOf_93 : decode cX3_faultOf 93 = .ok (.iconst 2, 1) := by decide +kernel
theorem dX3_faultOf_94 : decode cX3_faultOf 94 = .ok (.ireturn, 1) := by decide +kernel
theorem dX3_faultOf_95 : decode cX3_faultOf 95 = .ok (.iload 4, 2) := by decide +kernel
theorem dX3_faultOf_97 : decode cX3_faultOf 97 = .ok (.ifCond .le 10, 3) := by decide +kernel
theorem dX3_faultOf_100 : decode cX3_faultOf 100 = .ok (.iload 5, 2) := by decide +kernel
theorem dX3_faultOf_102 : decode cX3_faultOf 102 = .ok (.ifCond .ne 5, 3) := by decide +kernel
theorem dX3_faultOf_105 : decode cX3_faultOf 105 = .ok (.iconst 2, 1) := by decide +kernel
theorem dX3_faultOf_106 : decode cX3_faultOf 106 = .ok (.ireturn, 1) := by decide +kernel
theorem dX3_faultOf_107 : decode cX3_faultOf 107 = .ok (.iload 4, 2) := by decide +kernel
theorem dX3_faultOf_109 : decode cX3_faultOf 109 = .ok (.bipush 64, 2) := by decide +kernel
theorem dX3_faultOf_111 : decode cX3_faultOf 111 = .ok (.if_icmp .ge 7, 3) := by decide +kernel
theorem dX3_faultOf_114 : decode cX3_faultOf 114 = .ok (.iconst 0, 1) := by decide +kernel
theorem dX3_faultOf_115 : decode cX3_faultOf 115 = .ok (.goto 4, 3) := by decide +kernel
theorem dX3_faultOf_118 : decode cX3_faultOf 118 = .ok (.iconst 5, 1) := by decide +kernel
theorem dX3_faultOf_119 : decode cX3_faultOf 119 = .ok (.ireturn, 1) := by decide +kernel
theorem dX3_faultOf_120 : decode cX3_faultOf 120 = .ok (.iload 5, 2) := by decide +kernel
theorem dX3_faultOf_122 : decode cX3_faultOf 122 = .ok (.ifCond .eq 7, 3) := by decide +kernel
theorem dX3_faultOf_125 : decode cX3_faultOf 125 = .ok (.iconst 0, 1) := by decide +kernel
theorem dX3_faultOf_126 : decode cX3_faultOf 126 = .ok (.goto 4, 3) := by decide +kernel
theorem dX3_faultOf_129 : decode cX3_faultOf 129 = .ok (.iconst 2, 1) := by decide +kernel
theorem dX3_faultOf_130 : decode cX3_faultOf 130 = .ok (.ireturn, 1) := by decide +kernel
theorem dX3_faultOf_131 : decode cX3_faultOf 131 = .ok (.iconst 1, 1) := by decide +kernel
theorem dX3_faultOf_132 : decode cX3_faultOf 132 = .ok (.ireturn, 1) := by decide +kernel
set_option maxRecDepth 20000 in
theorem ggX3_take_X1_append : GoodIn wsX3_take wsX1_append := goodIn_r _ [6, 7, 8, 9, 33, 34, 35, 36, 37, 38] (by decide +kernel) (by decide +kernel)
set_option maxRecDepth 20000 in
theorem gX3_take_X1_append : GoodIn wsX3_take (wsV RX3 62 RX1 yX1_append wsX1_append) := goodIn_app (goodIn_of _ (by decide +kernel)) ggX3_take_X1_append
set_option maxRecDepth 20000 in
theorem ggX3_take_X1_opensAhead : GoodIn wsX3_take wsX1_opensAhead := goodIn_r _ [13, 14, 15, 16, 5, 17, 8, 9, 18, 19, 20, 21, 22, 23, 24, 25, 26, 27, 28, 29, 33, 34, 35, 36, 37, 38] (by decide +kernel) (by decide +kernel)
set_option maxRecDepth 20000 in
theorem gX3_take_X1_opensAhead : GoodIn wsX3_take (wsV RX3 55 RX1 yX1_opensAhead wsX1_opensAhead) := goodIn_app (goodIn_of _ (by decide +kernel)) ggX3_take_X1_opensAhead
theorem dX3_take_0 : decode cX3_take 0 = .ok (.iload_n 1, 1) := by decide +kernel
theorem dX3_take_1 : decode cX3_take 1 = .ok (.bipush 41, 2) := by decide +kernel
theorem dX3_take_3 : decode cX3_take 3 = .ok (.if_icmp .ne 12, 3) := by decide +kernel
theorem dX3_take_6 : decode cX3_take 6 = .ok (.aload_n 2, 1) := by decide +kernel
theorem dX3_take_7 : decode cX3_take 7 = .ok (.getfield 19, 3) := by decide +kernel
theorem dX3_take_10 : decode cX3_take 10 = .ok (.iconst 0, 1) := by decide +kernel
theorem dX3_take_11 : decode cX3_take 11 = .ok (.invokevirtual 62, 3) := by decide +kernel
theorem dX3_take_14 : decode cX3_take 14 = .ok (.return_, 1) := by decide +kernel
theorem dX3_take_15 : decode cX3_take 15 = .ok (.aload_n 2, 1) := by decide +kernel
theorem dX3_take_16 : decode cX3_take 16 = .ok (.getfield 19, 3) := by decide +kernel
theorem dX3_take_19 : decode cX3_take 19 = .ok (.aload_n 2, 1) := by decide +kernel
theorem dX3_take_20 : decode cX3_take 20 = .ok (.getfield 19, 3) := by decide +kernel
theorem dX3_take_23 : decode cX3_take 23 = .ok (.getfield 52, 3) := by decide +kernel
theorem dX3_take_26 : decode cX3_take 26 = .ok (.invokevirtual 55, 3) := by decide +kernel
theorem dX3_take_29 : decode cX3_take 29 = .ok (.istore_n 3, 1) := by decide +kernel
theorem dX3_take_30 : decode cX3_take 30 = .ok (.iload_n 1, 1) := by decide +kernel
theorem dX3_take_31 : decode cX3_take 31 = .ok (.bipush 40, 2) := by decide +kernel
theorem dX3_take_33 : decode cX3_take 33 = .ok (.if_icmp .ne 27, 3) := by decide +kernel
theorem dX3_take_36 : decode cX3_take 36 = .ok (.iload_n 3, 1) := by decide +kernel
theorem dX3_take_37 : decode cX3_take 37 = .ok (.bipush 64, 2) := by decide +kernel
theorem dX3_take_39 : decode cX3_take 39 = .ok (.if_icmp .ge 21, 3) := by decide +kernel
theorem dX3_take_42 : decode cX3_take 42 = .ok (.aload_n 2, 1) := by decide +kernel
theorem dX3_take_43 : decode cX3_take 43 = .ok (.getfield 19, 3) := by decide +kernel
theorem dX3_take_46 : decode cX3_take 46 = .ok (.iconst 1, 1) := by decide +kernel
theorem dX3_take_47 : decode cX3_take 47 = .ok (.invokevirtual 62, 3) := by decide +kernel
theorem dX3_take_50 : decode cX3_take 50 = .ok (.aload_n 2, 1) := by decide +kernel
theorem dX3_take_51 : decode cX3_take 51 = .ok (.getfield 65, 3) := by decide +kernel
theorem dX3_take_54 : decode cX3_take 54 = .ok (.iload_n 3, 1) := by decide +kernel
theorem dX3_take_55 : decode cX3_take 55 = .ok (.iconst 0, 1) := by decide +kernel
theorem dX3_take_56 : decode cX3_take 56 = .ok (.iastore, 1) := by decide +kernel
theorem dX3_take_57 : decode cX3_take 57 = .ok (.goto 24, 3) := by decide +kernel
theorem dX3_take_60 : decode cX3_take 60 = .ok (.iload_n 1, 1) := by decide +kernel
theorem dX3_take_61 : decode cX3_take 61 = .ok (.iconst 1, 1) := by decide +kernel
theorem dX3_take_62 : decode cX3_take 62 = .ok (.if_icmp .ne 19, 3) := by decide +kernel
theorem dX3_take_65 : decode cX3_take 65 = .ok (.iload_n 3, 1) := by decide +kernel
theorem dX3_take_66 : decode cX3_take 66 = .ok (.ifCond .le 15, 3) := by decide +kernel
theorem dX3_take_69 : decode cX3_take 69 = .ok (.aload_n 2, 1) := by decide +kernel
theorem dX3_take_70 : decode cX3_take 70 = .ok (.getfield 65, 3) := by decide +kernel
theorem dX3_take_73 : decode cX3_take 73 = .ok (.iload_n 3, 1) := by decide +kernel
theorem dX3_take_74 : decode cX3_take 74 = .ok (.iconst 1, 1) := by decide +kernel
theorem dX3_take_75 : decode cX3_take 75 = .ok (.isub, 1) := by decide +kernel
theorem dX3_take_76 : decode cX3_take 76 = .ok (.aload_n 0, 1) := by decide +kernel
theorem dX3_take_77 : decode cX3_take 77 = .ok (.getfield 69, 3) := by decide +kernel
theorem dX3_take_80 : decode cX3_take 80 = .ok (.iastore, 1) := by decide +kernel
theorem dX3_take_81 : decode cX3_take 81 = .ok (.return_, 1) := by decide +kernel
set_option maxRecDepth 20000 in
theorem ggX3_nextToken_X3_isFigure : GoodIn wsX3_nextToken wsX3_isFigure := goodIn_r _ [8] (by decide +kernel) (by decide +kernel)
set_option maxRecDepth 20000 in
theorem gX3_nextToken_X3_isFigure : GoodIn wsX3_nextToken (va_wsS RX3 75 yX3_isFigure wsX3_isFigure) := goodIn_app (goodIn_of _ (by decide +kernel)) ggX3_nextToken_X3_isFigure
set_option maxRecDepth 20000 in
theorem ggX3_nextToken_X3_numberToken : GoodIn wsX3_nextToken wsX3_numberToken := goodIn_r _ [12, 13, 1, 2, 3, 4, 5, 6, 7, 8, 14, 15, 16, 17, 18, 19] (by decide +kernel) (by decide +kernel)
set_option maxRecDepth 20000 in
theorem gX3_nextToken_X3_numberToken : GoodIn wsX3_nextToken (wsV RX3 79 RX3 yX3_numberToken wsX3_numberToken) := goodIn_app (goodIn_of _ (by decide +kernel)) ggX3_nextToken_X3_numberToken
theorem dX3_nextToken_0 : decode cX3_nextToken 0 = .ok (.aload_n 0, 1) := by decide +kernel
theorem dX3_nextToken_1 : decode cX3_nextToken 1 = .ok (.getfield 30, 3) := by decide +kernel
theorem dX3_nextToken_4 : decode cX3_nextToken 4 = .ok (.aload_n 0, 1) := by decide +kernel
theorem dX3_nextToken_5 : decode cX3_nextToken 5 = .ok (.getfield 15, 3) := by decide +kernel
theorem dX3_nextToken_8 : decode cX3_nextToken 8 = .ok (.if_icmp .ge 30, 3) := by decide +kernel
theorem dX3_nextToken_11 : decode cX3_nextToken 11 = .ok (.aload_n 0, 1) := by decide +kernel
theorem dX3_nextToken_12 : decode cX3_nextToken 12 = .ok (.getfield 9, 3) := by decide +kernel
theorem dX3_nextToken_15 : decode cX3_nextToken 15 = .ok (.aload_n 0, 1) := by decide +kernel
theorem dX3_nextToken_16 : decode cX3_nextToken 16 = .ok (.getfield 30, 3) := by decide +kernel
theorem dX3_nextToken_19 : decode cX3_nextToken 19 = .ok (.baload, 1) := by decide +kernel
theorem dX3_nextToken_20 : decode cX3_nextToken 20 = .ok (.bipush 32, 2) := by decide +kernel
theorem dX3_nextToken_22 : decode cX3_nextToken 22 = .ok (.if_icmp .ne 16, 3) := by decide +kernel
theorem dX3_nextToken_25 : decode cX3_nextToken 25 = .ok (.aload_n 0, 1) := by decide +kernel
theorem dX3_nextToken_26 : decode cX3_nextToken 26 = .ok (.dup, 1) := by decide +kernel
theorem dX3_nextToken_27 : decode cX3_nextToken 27 = .ok (.getfield 30, 3) := by decide +kernel
theorem dX3_nextToken_30 : decode cX3_nextToken 30 = .ok (.iconst 1, 1) := by decide +kernel
theorem dX3_nextToken_31 : decode cX3_nextToken 31 = .ok (.iadd, 1) := by decide +kernel
theorem dX3_nextToken_32 : decode cX3_nextToken 32 = .ok (.putfield 30, 3) := by decide +kernel
theorem dX3_nextToken_35 : decode cX3_nextToken 35 = .ok (.goto (-35), 3) := by decide +kernel
theorem dX3_nextToken_38 : decode cX3_nextToken 38 = .ok (.aload_n 0, 1) := by decide +kernel
theorem dX3_nextToken_39 : decode cX3_nextToken 39 = .ok (.aload_n 0, 1) := by decide +kernel
theorem dX3_nextToken_40 : decode cX3_nextToken 40 = .ok (.getfield 30, 3) := by decide +kernel
theorem dX3_nextToken_43 : decode cX3_nextToken 43 = .ok (.putfield 72, 3) := by decide +kernel
theorem dX3_nextToken_46 : decode cX3_nextToken 46 = .ok (.aload_n 0, 1) := by decide +kernel
theorem dX3_nextToken_47 : decode cX3_nextToken 47 = .ok (.getfield 30, 3) := by decide +kernel
theorem dX3_nextToken_50 : decode cX3_nextToken 50 = .ok (.aload_n 0, 1) := by decide +kernel
theorem dX3_nextToken_51 : decode cX3_nextToken 51 = .ok (.getfield 15, 3) := by decide +kernel
theorem dX3_nextToken_54 : decode cX3_nextToken 54 = .ok (.if_icmp .lt 5, 3) := by decide +kernel
theorem dX3_nextToken_57 : decode cX3_nextToken 57 = .ok (.iconst 0, 1) := by decide +kernel
theorem dX3_nextToken_58 : decode cX3_nextToken 58 = .ok (.ireturn, 1) := by decide +kernel
theorem dX3_nextToken_59 : decode cX3_nextToken 59 = .ok (.aload_n 0, 1) := by decide +kernel
theorem dX3_nextToken_60 : decode cX3_nextToken 60 = .ok (.getfield 9, 3) := by decide +kernel
theorem dX3_nextToken_63 : decode cX3_nextToken 63 = .ok (.aload_n 0, 1) := by decide +kernel
theorem dX3_nextToken_64 : decode cX3_nextToken 64 = .ok (.getfield 30, 3) := by decide +kernel
theorem dX3_nextToken_67 : decode cX3_nextToken 67 = .ok (.baload, 1) := by decide +kernel
theorem dX3_nextToken_68 : decode cX3_nextToken 68 = .ok (.istore_n 1, 1) := by decide +kernel
theorem dX3_nextToken_69 : decode cX3_nextToken 69 = .ok (.iload_n 1, 1) := by decide +kernel
theorem dX3_nextToken_70 : decode cX3_nextToken 70 = .ok (.invokestatic 75, 3) := by decide +kernel
theorem dX3_nextToken_73 : decode cX3_nextToken 73 = .ok (.ifCond .eq 8, 3) := by decide +kernel
theorem dX3_nextToken_76 : decode cX3_nextToken 76 = .ok (.aload_n 0, 1) := by decide +kernel
theorem dX3_nextToken_77 : decode cX3_nextToken 77 = .ok (.invokevirtual 79, 3) := by decide +kernel
theorem dX3_nextToken_80 : decode cX3_nextToken 80 = .ok (.ireturn, 1) := by decide +kernel
theorem dX3_nextToken_81 : decode cX3_nextToken 81 = .ok (.aload_n 0, 1) := by decide +kernel
theorem dX3_nextToken_82 : decode cX3_nextToken 82 = .ok (.dup, 1) := by decide +kernel
theorem dX3_nextToken_83 : decode cX3_nextToken 83 = .ok (.getfield 30, 3) := by decide +kernel
theorem dX3_nextToken_86 : decode cX3_nextToken 86 = .ok (.iconst 1, 1) := by decide +kernel
theorem dX3_nextToken_87 : decode cX3_nextToken 87 = .ok (.iadd, 1) := by decide +kernel
theorem dX3_nextToken_88 : decode cX3_nextToken 88 = .ok (.putfield 30, 3) := by decide +kernel
theorem dX3_nextToken_91 : decode cX3_nextToken 91 = .ok (.iload_n 1, 1) := by decide +kernel
theorem dX3_nextToken_92 : decode cX3_nextToken 92 = .ok (.bipush 40, 2) := by decide +kernel
theorem dX3_nextToken_94 : decode cX3_nextToken 94 = .ok (.if_icmp .eq 9, 3) := by decide +kernel
theorem dX3_nextToken_97 : decode cX3_nextToken 97 = .ok (.iload_n 1, 1) := by decide +kernel
theorem dX3_nextToken_98 : decode cX3_nextToken 98 = .ok (.bipush 41, 2) := by decide +kernel
theorem dX3_nextToken_100 : decode cX3_nextToken 100 = .ok (.if_icmp .ne 7, 3) := by decide +kernel
theorem dX3_nextToken_103 : decode cX3_nextToken 103 = .ok (.iload_n 1, 1) := by decide +kernel
theorem dX3_nextToken_104 : decode cX3_nextToken 104 = .ok (.goto 4, 3) := by decide +kernel
theorem dX3_nextToken_107 : decode cX3_nextToken 107 = .ok (.iconst 2, 1) := by decide +kernel
theorem dX3_nextToken_108 : decode cX3_nextToken 108 = .ok (.ireturn, 1) := by decide +kernel
set_option maxRecDepth 20000 in
theorem ggX3_numberToken_X3_isFigure : GoodIn wsX3_numberToken wsX3_isFigure := goodIn_r _ [9] (by decide +kernel) (by decide +kernel)
set_option maxRecDepth 20000 in
theorem gX3_numberToken_X3_isFigure : GoodIn wsX3_numberToken (va_wsS RX3 75 yX3_isFigure wsX3_isFigure) := goodIn_app (goodIn_of _ (by decide +kernel)) ggX3_numberToken_X3_isFigure
theorem dX3_numberToken_0 : decode cX3_numberToken 0 = .ok (.aload_n 0, 1) := by decide +kernel
theorem dX3_numberToken_1 : decode cX3_numberToken 1 = .ok (.iconst 0, 1) := by decide +kernel
theorem dX3_numberToken_2 : decode cX3_numberToken 2 = .ok (.putfield 69, 3) := by decide +kernel
theorem dX3_numberToken_5 : decode cX3_numberToken 5 = .ok (.aload_n 0, 1) := by decide +kernel
theorem dX3_numberToken_6 : decode cX3_numberToken 6 = .ok (.getfield 30, 3) := by decide +kernel
theorem dX3_numberToken_9 : decode cX3_numberToken 9 = .ok (.aload_n 0, 1) := by decide +kernel
theorem dX3_numberToken_10 : decode cX3_numberToken 10 = .ok (.getfield 15, 3) := by decide +kernel
theorem dX3_numberToken_13 : decode cX3_numberToken 13 = .ok (.if_icmp .ge 55, 3) := by decide +kernel
theorem dX3_numberToken_16 : decode cX3_numberToken 16 = .ok (.aload_n 0, 1) := by decide +kernel
theorem dX3_numberToken_17 : decode cX3_numberToken 17 = .ok (.getfield 9, 3) := by decide +kernel
theorem dX3_numberToken_20 : decode cX3_numberToken 20 = .ok (.aload_n 0, 1) := by decide +kernel
theorem dX3_numberToken_21 : decode cX3_numberToken 21 = .ok (.getfield 30, 3) := by decide +kernel
theorem dX3_numberToken_24 : decode cX3_numberToken 24 = .ok (.baload, 1) := by decide +kernel
theorem dX3_numberToken_25 : decode cX3_numberToken 25 = .ok (.invokestatic 75, 3) := by decide +kernel
theorem dX3_numberToken_28 : decode cX3_numberToken 28 = .ok (.ifCond .eq 40, 3) := by decide +kernel
theorem dX3_numberToken_31 : decode cX3_numberToken 31 = .ok (.aload_n 0, 1) := by decide +kernel
theorem dX3_numberToken_32 : decode cX3_numberToken 32 = .ok (.bipush 10, 2) := by decide +kernel
theorem dX3_numberToken_34 : decode cX3_numberToken 34 = .ok (.aload_n 0, 1) := by decide +kernel
theorem dX3_numberToken_35 : decode cX3_numberToken 35 = .ok (.getfield 69, 3) := by decide +kernel
theorem dX3_numberToken_38 : decode cX3_numberToken 38 = .ok (.imul, 1) := by decide +kernel
theorem dX3_numberToken_39 : decode cX3_numberToken 39 = .ok (.aload_n 0, 1) := by decide +kernel
theorem dX3_numberToken_40 : decode cX3_numberToken 40 = .ok (.getfield 9, 3) := by decide +kernel
theorem dX3_numberToken_43 : decode cX3_numberToken 43 = .ok (.aload_n 0, 1) := by decide +kernel
theorem dX3_numberToken_44 : decode cX3_numberToken 44 = .ok (.getfield 30, 3) := by decide +kernel
theorem dX3_numberToken_47 : decode cX3_numberToken 47 = .ok (.baload, 1) := by decide +kernel
theorem dX3_numberToken_48 : decode cX3_numberToken 48 = .ok (.iadd, 1) := by decide +kernel
theorem dX3_numberToken_49 : decode cX3_numberToken 49 = .ok (.bipush 48, 2) := by decide +kernel
theorem dX3_numberToken_51 : decode cX3_numberToken 51 = .ok (.isub, 1) := by decide +kernel
theorem dX3_numberToken_52 : decode cX3_numberToken 52 = .ok (.putfield 69, 3) := by decide +kernel
theorem dX3_numberToken_55 : decode cX3_numberToken 55 = .ok (.aload_n 0, 1) := by decide +kernel
theorem dX3_numberToken_56 : decode cX3_numberToken 56 = .ok (.dup, 1) := by decide +kernel
theorem dX3_numberToken_57 : decode cX3_numberToken 57 = .ok (.getfield 30, 3) := by decide +kernel
theorem dX3_numberToken_60 : decode cX3_numberToken 60 = .ok (.iconst 1, 1) := by decide +kernel
theorem dX3_numberToken_61 : decode cX3_numberToken 61 = .ok (.iadd, 1) := by decide +kernel
theorem dX3_numberToken_62 : decode cX3_numberToken 62 = .ok (.putfield 30, 3) := by decide +kernel
theorem dX3_numberToken_65 : decode cX3_numberToken 65 = .ok (.goto (-60), 3) := by decide +kernel
theorem dX3_numberToken_68 : decode cX3_numberToken 68 = .ok (.aload_n 0, 1) := by decide +kernel
theorem dX3_numberToken_69 : decode cX3_numberToken 69 = .ok (.getfield 30, 3) := by decide +kernel
theorem dX3_numberToken_72 : decode cX3_numberToken 72 = .ok (.aload_n 0, 1) := by decide +kernel
theorem dX3_numberToken_73 : decode cX3_numberToken 73 = .ok (.getfield 72, 3) := by decide +kernel
theorem dX3_numberToken_76 : decode cX3_numberToken 76 = .ok (.isub, 1) := by decide +kernel
theorem dX3_numberToken_77 : decode cX3_numberToken 77 = .ok (.iconst 4, 1) := by decide +kernel
theorem dX3_numberToken_78 : decode cX3_numberToken 78 = .ok (.if_icmp .gt 7, 3) := by decide +kernel
theorem dX3_numberToken_81 : decode cX3_numberToken 81 = .ok (.iconst 1, 1) := by decide +kernel
theorem dX3_numberToken_82 : decode cX3_numberToken 82 = .ok (.goto 4, 3) := by decide +kernel
theorem dX3_numberToken_85 : decode cX3_numberToken 85 = .ok (.iconst 2, 1) := by decide +kernel
theorem dX3_numberToken_86 : decode cX3_numberToken 86 = .ok (.ireturn, 1) := by decide +kernel
theorem dX3_isFigure_0 : decode cX3_isFigure 0 = .ok (.iload_n 0, 1) := by decide +kernel
theorem dX3_isFigure_1 : decode cX3_isFigure 1 = .ok (.bipush 48, 2) := by decide +kernel
theorem dX3_isFigure_3 : decode cX3_isFigure 3 = .ok (.if_icmp .lt 13, 3) := by decide +kernel
theorem dX3_isFigure_6 : decode cX3_isFigure 6 = .ok (.iload_n 0, 1) := by decide +kernel
theorem dX3_isFigure_7 : decode cX3_isFigure 7 = .ok (.bipush 57, 2) := by decide +kernel
theorem dX3_isFigure_9 : decode cX3_isFigure 9 = .ok (.if_icmp .gt 7, 3) := by decide +kernel
theorem dX3_isFigure_12 : decode cX3_isFigure 12 = .ok (.iconst 1, 1) := by decide +kernel
theorem dX3_isFigure_13 : decode cX3_isFigure 13 = .ok (.goto 4, 3) := by decide +kernel
theorem dX3_isFigure_16 : decode cX3_isFigure 16 = .ok (.iconst 0, 1) := by decide +kernel
theorem dX3_isFigure_17 : decode cX3_isFigure 17 = .ok (.ireturn, 1) := by decide +kernel
set_option maxRecDepth 20000 in
theorem ggX4_init_X1_init : GoodIn wsX4_init wsX1_init := goodIn_r _ [12, 13, 2, 3, 8, 14, 15, 16, 17, 18, 19, 20, 21, 22] (by decide +kernel) (by decide +kernel)
set_option maxRecDepth 20000 in
theorem gX4_init_X1_init_n11 : GoodIn wsX4_init (wsX1_init) := ggX4_init_X1_init
theorem dX4_init_0 : decode cX4_init 0 = .ok (.aload_n 0, 1) := by decide +kernel
theorem dX4_init_1 : decode cX4_init 1 = .ok (.invokespecial 3, 3) := by decide +kernel
theorem dX4_init_4 : decode cX4_init 4 = .ok (.aload_n 0, 1) := by decide +kernel
theorem dX4_init_5 : decode cX4_init 5 = .ok (.new 9, 3) := by decide +kernel
theorem dX4_init_8 : decode cX4_init 8 = .ok (.dup, 1) := by decide +kernel
theorem dX4_init_9 : decode cX4_init 9 = .ok (.invokespecial 11, 3) := by decide +kernel
theorem dX4_init_12 : decode cX4_init 12 = .ok (.putfield 12, 3) := by decide +kernel
theorem dX4_init_15 : decode cX4_init 15 = .ok (.aload_n 0, 1) := by decide +kernel
theorem dX4_init_16 : decode cX4_init 16 = .ok (.bipush 64, 2) := by decide +kernel
theorem dX4_init_18 : decode cX4_init 18 = .ok (.newarray .int, 2) := by decide +kernel
theorem dX4_init_20 : decode cX4_init 20 = .ok (.putfield 18, 3) := by decide +kernel
theorem dX4_init_23 : decode cX4_init 23 = .ok (.aload_n 0, 1) := by decide +kernel
theorem dX4_init_24 : decode cX4_init 24 = .ok (.bipush 64, 2) := by decide +kernel
theorem dX4_init_26 : decode cX4_init 26 = .ok (.newarray .int, 2) := by decide +kernel
theorem dX4_init_28 : decode cX4_init 28 = .ok (.putfield 22, 3) := by decide +kernel
theorem dX4_init_31 : decode cX4_init 31 = .ok (.return_, 1) := by decide +kernel
theorem dX4_nodes_0 : decode cX4_nodes 0 = .ok (.aload_n 0, 1) := by decide +kernel
theorem dX4_nodes_1 : decode cX4_nodes 1 = .ok (.getfield 12, 3) := by decide +kernel
theorem dX4_nodes_4 : decode cX4_nodes 4 = .ok (.getfield 25, 3) := by decide +kernel
theorem dX4_nodes_7 : decode cX4_nodes 7 = .ok (.iconst 2, 1) := by decide +kernel
theorem dX4_nodes_8 : decode cX4_nodes 8 = .ok (.idiv, 1) := by decide +kernel
theorem dX4_nodes_9 : decode cX4_nodes 9 = .ok (.ireturn, 1) := by decide +kernel
set_option maxRecDepth 20000 in
theorem ggX4_has_X4_nodes : GoodIn wsX4_has wsX4_nodes := goodIn_r _ [5, 6, 7, 8, 9, 10, 11, 12, 13, 14, 15] (by decide +kernel) (by decide +kernel)
set_option maxRecDepth 20000 in
theorem gX4_has_X4_nodes : GoodIn wsX4_has (wsV RX4 29 RX4 yX4_nodes wsX4_nodes) := goodIn_app (goodIn_of _ (by decide +kernel)) ggX4_has_X4_nodes
theorem dX4_has_0 : decode cX4_has 0 = .ok (.iload_n 1, 1) := by decide +kernel
theorem dX4_has_1 : decode cX4_has 1 = .ok (.ifCond .lt 15, 3) := by decide +kernel
theorem dX4_has_4 : decode cX4_has 4 = .ok (.iload_n 1, 1) := by decide +kernel
theorem dX4_has_5 : decode cX4_has 5 = .ok (.aload_n 0, 1) := by decide +kernel
theorem dX4_has_6 : decode cX4_has 6 = .ok (.invokevirtual 29, 3) := by decide +kernel
theorem dX4_has_9 : decode cX4_has 9 = .ok (.if_icmp .ge 7, 3) := by decide +kernel
theorem dX4_has_12 : decode cX4_has 12 = .ok (.iconst 1, 1) := by decide +kernel
theorem dX4_has_13 : decode cX4_has 13 = .ok (.goto 4, 3) := by decide +kernel
theorem dX4_has_16 : decode cX4_has 16 = .ok (.iconst 0, 1) := by decide +kernel
theorem dX4_has_17 : decode cX4_has 17 = .ok (.ireturn, 1) := by decide +kernel
set_option maxRecDepth 20000 in
theorem ggX4_openOf_X1_placeOfSign : GoodIn wsX4_openOf wsX1_placeOfSign := goodIn_r _ [6, 7, 8, 9, 5, 10, 11, 12, 13, 14, 15, 16, 17, 18, 19, 20, 21, 22, 23, 24, 25, 26, 27, 28, 29, 30, 31, 32, 33, 34, 35, 36, 37, 38, 39, 40, 44, 45, 46, 47, 48, 49] (by decide +kernel) (by decide +kernel)
set_option maxRecDepth 20000 in
theorem gX4_openOf_X1_placeOfSign : GoodIn wsX4_openOf (wsV RX4 33 RX1 yX1_placeOfSign wsX1_placeOfSign) := goodIn_app (goodIn_of _ (by decide +kernel)) ggX4_openOf_X1_placeOfSign
theorem dX4_openOf_0 : decode cX4_openOf 0 = .ok (.aload_n 0, 1) := by decide +kernel
theorem dX4_openOf_1 : decode cX4_openOf 1 = .ok (.getfield 12, 3) := by decide +kernel
theorem dX4_openOf_4 : decode cX4_openOf 4 = .ok (.iload_n 1, 1) := by decide +kernel
theorem dX4_openOf_5 : decode cX4_openOf 5 = .ok (.iconst 0, 1) := by decide +kernel
theorem dX4_openOf_6 : decode cX4_openOf 6 = .ok (.invokevirtual 33, 3) := by decide +kernel
theorem dX4_openOf_9 : decode cX4_openOf 9 = .ok (.ireturn, 1) := by decide +kernel
set_option maxRecDepth 20000 in
theorem ggX4_closeOf_X4_openOf : GoodIn wsX4_closeOf wsX4_openOf := goodIn_r _ [6, 1, 7, 8, 9, 10, 11, 12, 13, 14, 15, 16, 17, 18, 19, 20, 21, 22, 23, 24, 25, 26, 27, 28, 29, 30, 31, 32, 33, 34, 35, 36, 37, 38, 39, 40, 41, 42, 43, 44, 45, 77, 78, 79, 80, 81, 82, 83, 84, 85] (by decide +kernel) (by decide +kernel)
set_option maxRecDepth 20000 in
theorem gX4_closeOf_X4_openOf : GoodIn wsX4_closeOf (wsV RX4 37 RX4 yX4_openOf wsX4_openOf) := goodIn_app (goodIn_of _ (by decide +kernel)) ggX4_closeOf_X4_openOf
set_option maxRecDepth 20000 in
theorem ggX4_closeOf_X1_partnerOf : GoodIn wsX4_closeOf wsX1_partnerOf := goodIn_r _ [49, 50, 51, 52, 10, 53, 16, 19, 54, 55, 56, 57, 20, 21, 22, 23, 24, 28, 29, 30, 31, 32, 33, 34, 58, 59, 60, 61, 18, 62, 63, 64, 65, 66, 67, 68, 69, 70, 71, 72, 73, 74, 75, 76, 80, 81, 82, 83, 84, 85] (by decide +kernel) (by decide +kernel)
set_option maxRecDepth 20000 in
theorem gX4_closeOf_X1_partnerOf : GoodIn wsX4_closeOf (wsV RX4 41 RX1 yX1_partnerOf wsX1_partnerOf) := goodIn_app (goodIn_of _ (by decide +kernel)) ggX4_closeOf_X1_partnerOf
theorem dX4_closeOf_0 : decode cX4_closeOf 0 = .ok (.aload_n 0, 1) := by decide +kernel
theorem dX4_closeOf_1 : decode cX4_closeOf 1 = .ok (.getfield 12, 3) := by decide +kernel
theorem dX4_closeOf_4 : decode cX4_closeOf 4 = .ok (.aload_n 0, 1) := by decide +kernel
theorem dX4_closeOf_5 : decode cX4_closeOf 5 = .ok (.iload_n 1, 1) := by decide +kernel
theorem dX4_closeOf_6 : decode cX4_closeOf 6 = .ok (.invokevirtual 37, 3) := by decide +kernel
theorem dX4_closeOf_9 : decode cX4_closeOf 9 = .ok (.invokevirtual 41, 3) := by decide +kernel
theorem dX4_closeOf_12 : decode cX4_closeOf 12 = .ok (.ireturn, 1) := by decide +kernel
set_option maxRecDepth 20000 in
theorem ggX4_nodeWithPlace_X1_bitAt : GoodIn wsX4_nodeWithPlace wsX1_bitAt := goodIn_r _ [6, 7, 8, 57, 58, 59, 60, 61, 62] (by decide +kernel) (by decide +kernel)
set_option maxRecDepth 20000 in
theorem gX4_nodeWithPlace_X1_bitAt : GoodIn wsX4_nodeWithPlace (wsV RX4 44 RX1 yX1_bitAt wsX1_bitAt) := goodIn_app (goodIn_of _ (by decide +kernel)) ggX4_nodeWithPlace_X1_bitAt
set_option maxRecDepth 20000 in
theorem ggX4_nodeWithPlace_X1_partnerOf : GoodIn wsX4_nodeWithPlace wsX1_partnerOf := goodIn_r _ [12, 13, 3, 4, 5, 6, 7, 8, 14, 15, 16, 17, 18, 19, 20, 21, 22, 23, 24, 25, 26, 27, 28, 29, 30, 31, 32, 33, 34, 35, 36, 37, 38, 39, 40, 41, 42, 43, 44, 45, 46, 47, 48, 49, 57, 58, 59, 60, 61, 62] (by decide +kernel) (by decide +kernel)
set_option maxRecDepth 20000 in
theorem gX4_nodeWithPlace_X1_partnerOf : GoodIn wsX4_nodeWithPlace (wsV RX4 41 RX1 yX1_partnerOf wsX1_partnerOf) := goodIn_app (goodIn_of _ (by decide +kernel)) ggX4_nodeWithPlace_X1_partnerOf
set_option maxRecDepth 20000 in
theorem ggX4_nodeWithPlace_X1_opensAhead : GoodIn wsX4_nodeWithPlace wsX1_opensAhead := goodIn_r _ [53, 14, 15, 16, 5, 17, 7, 8, 18, 19, 20, 21, 22, 23, 24, 25, 26, 27, 28, 29, 57, 58, 59, 60, 61, 62] (by decide +kernel) (by decide +kernel)
set_option maxRecDepth 20000 in
theorem gX4_nodeWithPlace_X1_opensAhead : GoodIn wsX4_nodeWithPlace (wsV RX4 47 RX1 yX1_opensAhead wsX1_opensAhead) := goodIn_app (goodIn_of _ (by decide +kernel)) ggX4_nodeWithPlace_X1_opensAhead
theorem dX4_nodeWithPlace_0 : decode cX4_nodeWithPlace 0 = .ok (.aload_n 0, 1) := by decide +kernel
theorem dX4_nodeWithPlace_1 : decode cX4_nodeWithPlace 1 = .ok (.getfield 12, 3) := by decide +kernel
theorem dX4_nodeWithPlace_4 : decode cX4_nodeWithPlace 4 = .ok (.aload_n 0, 1) := by decide +kernel
theorem dX4_nodeWithPlace_5 : decode cX4_nodeWithPlace 5 = .ok (.getfield 12, 3) := by decide +kernel
theorem dX4_nodeWithPlace_8 : decode cX4_nodeWithPlace 8 = .ok (.iload_n 1, 1) := by decide +kernel
theorem dX4_nodeWithPlace_9 : decode cX4_nodeWithPlace 9 = .ok (.invokevirtual 44, 3) := by decide +kernel
theorem dX4_nodeWithPlace_12 : decode cX4_nodeWithPlace 12 = .ok (.iconst 1, 1) := by decide +kernel
theorem dX4_nodeWithPlace_13 : decode cX4_nodeWithPlace 13 = .ok (.if_icmp .ne 7, 3) := by decide +kernel
theorem dX4_nodeWithPlace_16 : decode cX4_nodeWithPlace 16 = .ok (.iload_n 1, 1) := by decide +kernel
theorem dX4_nodeWithPlace_17 : decode cX4_nodeWithPlace 17 = .ok (.goto 11, 3) := by decide +kernel
theorem dX4_nodeWithPlace_20 : decode cX4_nodeWithPlace 20 = .ok (.aload_n 0, 1) := by decide +kernel
theorem dX4_nodeWithPlace_21 : decode cX4_nodeWithPlace 21 = .ok (.getfield 12, 3) := by decide +kernel
theorem dX4_nodeWithPlace_24 : decode cX4_nodeWithPlace 24 = .ok (.iload_n 1, 1) := by decide +kernel
theorem dX4_nodeWithPlace_25 : decode cX4_nodeWithPlace 25 = .ok (.invokevirtual 41, 3) := by decide +kernel
theorem dX4_nodeWithPlace_28 : decode cX4_nodeWithPlace 28 = .ok (.invokevirtual 47, 3) := by decide +kernel
theorem dX4_nodeWithPlace_31 : decode cX4_nodeWithPlace 31 = .ok (.ireturn, 1) := by decide +kernel
set_option maxRecDepth 20000 in
theorem ggX4_placeForChild_X4_openOf : GoodIn wsX4_placeForChild wsX4_openOf := goodIn_r _ [6, 1, 7, 8, 9, 10, 11, 12, 13, 14, 15, 16, 17, 18, 19, 20, 21, 22, 23, 24, 25, 26, 27, 28, 29, 30, 31, 32, 33, 34, 35, 36, 37, 38, 39, 40, 41, 42, 43, 44, 45, 70, 71, 72, 73, 74, 75, 76, 77, 78] (by decide +kernel) (by decide +kernel)
set_option maxRecDepth 20000 in
theorem gX4_placeForChild_X4_openOf : GoodIn wsX4_placeForChild (wsV RX4 37 RX4 yX4_openOf wsX4_openOf) := goodIn_app (goodIn_of _ (by decide +kernel)) ggX4_placeForChild_X4_openOf
set_option maxRecDepth 20000 in
theorem ggX4_placeForChild_X1_excessAt : GoodIn wsX4_placeForChild wsX1_excessAt := goodIn_r _ [49, 16, 19, 20, 21, 22, 23, 24, 28, 29, 30, 31, 32, 33, 34, 73, 74, 75, 76, 77, 78] (by decide +kernel) (by decide +kernel)
set_option maxRecDepth 20000 in
theorem gX4_placeForChild_X1_excessAt : GoodIn wsX4_placeForChild (wsV RX4 50 RX1 yX1_excessAt wsX1_excessAt) := goodIn_app (goodIn_of _ (by decide +kernel)) ggX4_placeForChild_X1_excessAt
set_option maxRecDepth 20000 in
theorem ggX4_placeForChild_X1_bitAt : GoodIn wsX4_placeForChild wsX1_bitAt := goodIn_r _ [53, 16, 19, 73, 74, 75, 76, 77, 78] (by decide +kernel) (by decide +kernel)
set_option maxRecDepth 20000 in
theorem gX4_placeForChild_X1_bitAt : GoodIn wsX4_placeForChild (wsV RX4 44 RX1 yX1_bitAt wsX1_bitAt) := goodIn_app (goodIn_of _ (by decide +kernel)) ggX4_placeForChild_X1_bitAt
set_option maxRecDepth 20000 in
theorem ggX4_placeForChild_X1_searchOn : GoodIn wsX4_placeForChild wsX1_searchOn := goodIn_r _ [57, 18, 58, 59, 47, 48, 10, 49, 16, 19, 20, 21, 22, 23, 24, 28, 29, 30, 31, 32, 33, 34, 60, 61, 62, 63, 64, 65, 66, 67, 68, 69, 73, 74, 75, 76, 77, 78] (by decide +kernel) (by decide +kernel)
set_option maxRecDepth 20000 in
theorem gX4_placeForChild_X1_searchOn : GoodIn wsX4_placeForChild (wsV RX4 53 RX1 yX1_searchOn wsX1_searchOn) := goodIn_app (goodIn_of _ (by decide +kernel)) ggX4_placeForChild_X1_searchOn
theorem dX4_placeForChild_0 : decode cX4_placeForChild 0 = .ok (.aload_n 0, 1) := by decide +kernel
theorem dX4_placeForChild_1 : decode cX4_placeForChild 1 = .ok (.iload_n 1, 1) := by decide +kernel
theorem dX4_placeForChild_2 : decode cX4_placeForChild 2 = .ok (.invokevirtual 37, 3) := by decide +kernel
theorem dX4_placeForChild_5 : decode cX4_placeForChild 5 = .ok (.iconst 1, 1) := by decide +kernel
theorem dX4_placeForChild_6 : decode cX4_placeForChild 6 = .ok (.iadd, 1) := by decide +kernel
theorem dX4_placeForChild_7 : decode cX4_placeForChild 7 = .ok (.istore_n 3, 1) := by decide +kernel
theorem dX4_placeForChild_8 : decode cX4_placeForChild 8 = .ok (.aload_n 0, 1) := by decide +kernel
theorem dX4_placeForChild_9 : decode cX4_placeForChild 9 = .ok (.getfield 12, 3) := by decide +kernel
theorem dX4_placeForChild_12 : decode cX4_placeForChild 12 = .ok (.iload_n 3, 1) := by decide +kernel
theorem dX4_placeForChild_13 : decode cX4_placeForChild 13 = .ok (.invokevirtual 50, 3) := by decide +kernel
theorem dX4_placeForChild_16 : decode cX4_placeForChild 16 = .ok (.istore 4, 2) := by decide +kernel
theorem dX4_placeForChild_18 : decode cX4_placeForChild 18 = .ok (.iconst 0, 1) := by decide +kernel
theorem dX4_placeForChild_19 : decode cX4_placeForChild 19 = .ok (.istore 5, 2) := by decide +kernel
theorem dX4_placeForChild_21 : decode cX4_placeForChild 21 = .ok (.iload 5, 2) := by decide +kernel
theorem dX4_placeForChild_23 : decode cX4_placeForChild 23 = .ok (.iload_n 2, 1) := by decide +kernel
theorem dX4_placeForChild_24 : decode cX4_placeForChild 24 = .ok (.if_icmp .ge 32, 3) := by decide +kernel
theorem dX4_placeForChild_27 : decode cX4_placeForChild 27 = .ok (.aload_n 0, 1) := by decide +kernel
theorem dX4_placeForChild_28 : decode cX4_placeForChild 28 = .ok (.getfield 12, 3) := by decide +kernel
theorem dX4_placeForChild_31 : decode cX4_placeForChild 31 = .ok (.iload_n 3, 1) := by decide +kernel
theorem dX4_placeForChild_32 : decode cX4_placeForChild 32 = .ok (.invokevirtual 44, 3) := by decide +kernel
theorem dX4_placeForChild_35 : decode cX4_placeForChild 35 = .ok (.iconst 1, 1) := by decide +kernel
theorem dX4_placeForChild_36 : decode cX4_placeForChild 36 = .ok (.if_icmp .ne 20, 3) := by decide +kernel
theorem dX4_placeForChild_39 : decode cX4_placeForChild 39 = .ok (.aload_n 0, 1) := by decide +kernel
theorem dX4_placeForChild_40 : decode cX4_placeForChild 40 = .ok (.getfield 12, 3) := by decide +kernel
theorem dX4_placeForChild_43 : decode cX4_placeForChild 43 = .ok (.iload_n 3, 1) := by decide +kernel
theorem dX4_placeForChild_44 : decode cX4_placeForChild 44 = .ok (.iload 4, 2) := by decide +kernel
theorem dX4_placeForChild_46 : decode cX4_placeForChild 46 = .ok (.invokevirtual 53, 3) := by decide +kernel
theorem dX4_placeForChild_49 : decode cX4_placeForChild 49 = .ok (.istore_n 3, 1) := by decide +kernel
theorem dX4_placeForChild_50 : decode cX4_placeForChild 50 = .ok (.iinc 5 1, 3) := by decide +kernel
theorem dX4_placeForChild_53 : decode cX4_placeForChild 53 = .ok (.goto (-32), 3) := by decide +kernel
theorem dX4_placeForChild_56 : decode cX4_placeForChild 56 = .ok (.iload_n 3, 1) := by decide +kernel
theorem dX4_placeForChild_57 : decode cX4_placeForChild 57 = .ok (.ireturn, 1) := by decide +kernel
set_option maxRecDepth 20000 in
theorem ggX4_depthOf_X4_openOf : GoodIn wsX4_depthOf wsX4_openOf := goodIn_r _ [6, 1, 7, 8, 9, 10, 11, 12, 13, 14, 15, 16, 17, 18, 19, 20, 21, 22, 23, 24, 25, 26, 27, 28, 29, 30, 31, 32, 33, 34, 35, 36, 37, 38, 39, 40, 41, 42, 43, 44, 45, 50, 51, 52, 53, 54, 55, 56, 57, 58] (by decide +kernel) (by decide +kernel)
set_option maxRecDepth 20000 in
theorem gX4_depthOf_X4_openOf : GoodIn wsX4_depthOf (wsV RX4 37 RX4 yX4_openOf wsX4_openOf) := goodIn_app (goodIn_of _ (by decide +kernel)) ggX4_depthOf_X4_openOf
set_option maxRecDepth 20000 in
theorem ggX4_depthOf_X1_excessAt : GoodIn wsX4_depthOf wsX1_excessAt := goodIn_r _ [49, 16, 19, 20, 21, 22, 23, 24, 28, 29, 30, 31, 32, 33, 34, 53, 54, 55, 56, 57, 58] (by decide +kernel) (by decide +kernel)
set_option maxRecDepth 20000 in
theorem gX4_depthOf_X1_excessAt : GoodIn wsX4_depthOf (wsV RX4 50 RX1 yX1_excessAt wsX1_excessAt) := goodIn_app (goodIn_of _ (by decide +kernel)) ggX4_depthOf_X1_excessAt
theorem dX4_depthOf_0 : decode cX4_depthOf 0 = .ok (.aload_n 0, 1) := by decide +kernel
theorem dX4_depthOf_1 : decode cX4_depthOf 1 = .ok (.getfield 12, 3) := by decide +kernel
theorem dX4_depthOf_4 : decode cX4_depthOf 4 = .ok (.aload_n 0, 1) := by decide +kernel
theorem dX4_depthOf_5 : decode cX4_depthOf 5 = .ok (.iload_n 1, 1) := by decide +kernel
theorem dX4_depthOf_6 : decode cX4_depthOf 6 = .ok (.invokevirtual 37, 3) := by decide +kernel
theorem dX4_depthOf_9 : decode cX4_depthOf 9 = .ok (.invokevirtual 50, 3) := by decide +kernel
theorem dX4_depthOf_12 : decode cX4_depthOf 12 = .ok (.ireturn, 1) := by decide +kernel
set_option maxRecDepth 20000 in
theorem ggX4_aboveBy_X4_openOf : GoodIn wsX4_aboveBy wsX4_openOf := goodIn_r _ [6, 1, 7, 8, 9, 10, 11, 12, 13, 14, 15, 16, 17, 18, 19, 20, 21, 22, 23, 24, 25, 26, 27, 28, 29, 30, 31, 32, 33, 34, 35, 36, 37, 38, 39, 40, 41, 42, 43, 44, 45, 70, 71, 72, 73, 74, 75, 76, 77, 78] (by decide +kernel) (by decide +kernel)
set_option maxRecDepth 20000 in
theorem gX4_aboveBy_X4_openOf : GoodIn wsX4_aboveBy (wsV RX4 37 RX4 yX4_openOf wsX4_openOf) := goodIn_app (goodIn_of _ (by decide +kernel)) ggX4_aboveBy_X4_openOf
set_option maxRecDepth 20000 in
theorem ggX4_aboveBy_X1_excessAt : GoodIn wsX4_aboveBy wsX1_excessAt := goodIn_r _ [49, 16, 19, 20, 21, 22, 23, 24, 28, 29, 30, 31, 32, 33, 34, 73, 74, 75, 76, 77, 78] (by decide +kernel) (by decide +kernel)
set_option maxRecDepth 20000 in
theorem gX4_aboveBy_X1_excessAt : GoodIn wsX4_aboveBy (wsV RX4 50 RX1 yX1_excessAt wsX1_excessAt) := goodIn_app (goodIn_of _ (by decide +kernel)) ggX4_aboveBy_X1_excessAt
set_option maxRecDepth 20000 in
theorem ggX4_aboveBy_X1_searchBack : GoodIn wsX4_aboveBy wsX1_searchBack := goodIn_r _ [53, 54, 55, 47, 48, 10, 49, 16, 19, 20, 21, 22, 23, 24, 28, 29, 30, 31, 32, 33, 34, 56, 57, 58, 59, 60, 61, 62, 63, 64, 65, 73, 74, 75, 76, 77, 78] (by decide +kernel) (by decide +kernel)
set_option maxRecDepth 20000 in
theorem gX4_aboveBy_X1_searchBack : GoodIn wsX4_aboveBy (wsV RX4 56 RX1 yX1_searchBack wsX1_searchBack) := goodIn_app (goodIn_of _ (by decide +kernel)) ggX4_aboveBy_X1_searchBack
set_option maxRecDepth 20000 in
theorem ggX4_aboveBy_X1_opensAhead : GoodIn wsX4_aboveBy wsX1_opensAhead := goodIn_r _ [69, 55, 47, 48, 10, 49, 16, 19, 20, 21, 22, 23, 24, 28, 29, 30, 31, 32, 33, 34, 73, 74, 75, 76, 77, 78] (by decide +kernel) (by decide +kernel)
set_option maxRecDepth 20000 in
theorem gX4_aboveBy_X1_opensAhead : GoodIn wsX4_aboveBy (wsV RX4 47 RX1 yX1_opensAhead wsX1_opensAhead) := goodIn_app (goodIn_of _ (by decide +kernel)) ggX4_aboveBy_X1_opensAhead
theorem dX4_aboveBy_0 : decode cX4_aboveBy 0 = .ok (.aload_n 0, 1) := by decide +kernel
theorem dX4_aboveBy_1 : decode cX4_aboveBy 1 = .ok (.iload_n 1, 1) := by decide +kernel
theorem dX4_aboveBy_2 : decode cX4_aboveBy 2 = .ok (.invokevirtual 37, 3) := by decide +kernel
theorem dX4_aboveBy_5 : decode cX4_aboveBy 5 = .ok (.istore_n 3, 1) := by decide +kernel
theorem dX4_aboveBy_6 : decode cX4_aboveBy 6 = .ok (.aload_n 0, 1) := by decide +kernel
theorem dX4_aboveBy_7 : decode cX4_aboveBy 7 = .ok (.getfield 12, 3) := by decide +kernel
theorem dX4_aboveBy_10 : decode cX4_aboveBy 10 = .ok (.iload_n 3, 1) := by decide +kernel
theorem dX4_aboveBy_11 : decode cX4_aboveBy 11 = .ok (.invokevirtual 50, 3) := by decide +kernel
theorem dX4_aboveBy_14 : decode cX4_aboveBy 14 = .ok (.istore 4, 2) := by decide +kernel
theorem dX4_aboveBy_16 : decode cX4_aboveBy 16 = .ok (.iload_n 2, 1) := by decide +kernel
theorem dX4_aboveBy_17 : decode cX4_aboveBy 17 = .ok (.iload 4, 2) := by decide +kernel
theorem dX4_aboveBy_19 : decode cX4_aboveBy 19 = .ok (.if_icmp .le 6, 3) := by decide +kernel
theorem dX4_aboveBy_22 : decode cX4_aboveBy 22 = .ok (.bipush (-4), 2) := by decide +kernel
theorem dX4_aboveBy_24 : decode cX4_aboveBy 24 = .ok (.ireturn, 1) := by decide +kernel
theorem dX4_aboveBy_25 : decode cX4_aboveBy 25 = .ok (.aload_n 0, 1) := by decide +kernel
theorem dX4_aboveBy_26 : decode cX4_aboveBy 26 = .ok (.getfield 12, 3) := by decide +kernel
theorem dX4_aboveBy_29 : decode cX4_aboveBy 29 = .ok (.aload_n 0, 1) := by decide +kernel
theorem dX4_aboveBy_30 : decode cX4_aboveBy 30 = .ok (.getfield 12, 3) := by decide +kernel
theorem dX4_aboveBy_33 : decode cX4_aboveBy 33 = .ok (.iload_n 3, 1) := by decide +kernel
theorem dX4_aboveBy_34 : decode cX4_aboveBy 34 = .ok (.iconst 1, 1) := by decide +kernel
theorem dX4_aboveBy_35 : decode cX4_aboveBy 35 = .ok (.iadd, 1) := by decide +kernel
theorem dX4_aboveBy_36 : decode cX4_aboveBy 36 = .ok (.iload 4, 2) := by decide +kernel
theorem dX4_aboveBy_38 : decode cX4_aboveBy 38 = .ok (.iload_n 2, 1) := by decide +kernel
theorem dX4_aboveBy_39 : decode cX4_aboveBy 39 = .ok (.isub, 1) := by decide +kernel
theorem dX4_aboveBy_40 : decode cX4_aboveBy 40 = .ok (.invokevirtual 56, 3) := by decide +kernel
theorem dX4_aboveBy_43 : decode cX4_aboveBy 43 = .ok (.invokevirtual 47, 3) := by decide +kernel
theorem dX4_aboveBy_46 : decode cX4_aboveBy 46 = .ok (.ireturn, 1) := by decide +kernel
set_option maxRecDepth 20000 in
theorem ggX4_firstChildOf_X4_openOf : GoodIn wsX4_firstChildOf wsX4_openOf := goodIn_r _ [6, 1, 7, 8, 9, 10, 11, 12, 13, 14, 15, 16, 17, 18, 19, 20, 21, 22, 23, 24, 25, 26, 27, 28, 29, 30, 31, 32, 33, 34, 35, 36, 37, 38, 39, 40, 41, 42, 43, 44, 45, 50, 51, 52, 53, 54, 55, 56, 57, 58] (by decide +kernel) (by decide +kernel)
set_option maxRecDepth 20000 in
theorem gX4_firstChildOf_X4_openOf : GoodIn wsX4_firstChildOf (wsV RX4 37 RX4 yX4_openOf wsX4_openOf) := goodIn_app (goodIn_of _ (by decide +kernel)) ggX4_firstChildOf_X4_openOf
set_option maxRecDepth 20000 in
theorem ggX4_firstChildOf_X1_bitAt : GoodIn wsX4_firstChildOf wsX1_bitAt := goodIn_r _ [49, 16, 19, 53, 54, 55, 56, 57, 58] (by decide +kernel) (by decide +kernel)
set_option maxRecDepth 20000 in
theorem gX4_firstChildOf_X1_bitAt : GoodIn wsX4_firstChildOf (wsV RX4 44 RX1 yX1_bitAt wsX1_bitAt) := goodIn_app (goodIn_of _ (by decide +kernel)) ggX4_firstChildOf_X1_bitAt
theorem dX4_firstChildOf_0 : decode cX4_firstChildOf 0 = .ok (.aload_n 0, 1) := by decide +kernel
theorem dX4_firstChildOf_1 : decode cX4_firstChildOf 1 = .ok (.getfield 12, 3) := by decide +kernel
theorem dX4_firstChildOf_4 : decode cX4_firstChildOf 4 = .ok (.aload_n 0, 1) := by decide +kernel
theorem dX4_firstChildOf_5 : decode cX4_firstChildOf 5 = .ok (.iload_n 1, 1) := by decide +kernel
theorem dX4_firstChildOf_6 : decode cX4_firstChildOf 6 = .ok (.invokevirtual 37, 3) := by decide +kernel
theorem dX4_firstChildOf_9 : decode cX4_firstChildOf 9 = .ok (.iconst 1, 1) := by decide +kernel
theorem dX4_firstChildOf_10 : decode cX4_firstChildOf 10 = .ok (.iadd, 1) := by decide +kernel
theorem dX4_firstChildOf_11 : decode cX4_firstChildOf 11 = .ok (.invokevirtual 44, 3) := by decide +kernel
theorem dX4_firstChildOf_14 : decode cX4_firstChildOf 14 = .ok (.iconst 1, 1) := by decide +kernel
theorem dX4_firstChildOf_15 : decode cX4_firstChildOf 15 = .ok (.if_icmp .ne 9, 3) := by decide +kernel
theorem dX4_firstChildOf_18 : decode cX4_firstChildOf 18 = .ok (.iload_n 1, 1) := by decide +kernel
theorem dX4_firstChildOf_19 : decode cX4_firstChildOf 19 = .ok (.iconst 1, 1) := by decide +kernel
theorem dX4_firstChildOf_20 : decode cX4_firstChildOf 20 = .ok (.iadd, 1) := by decide +kernel
theorem dX4_firstChildOf_21 : decode cX4_firstChildOf 21 = .ok (.goto 5, 3) := by decide +kernel
theorem dX4_firstChildOf_24 : decode cX4_firstChildOf 24 = .ok (.bipush (-4), 2) := by decide +kernel
theorem dX4_firstChildOf_26 : decode cX4_firstChildOf 26 = .ok (.ireturn, 1) := by decide +kernel
set_option maxRecDepth 20000 in
theorem ggX4_lastChildOf_X4_closeOf : GoodIn wsX4_lastChildOf wsX4_closeOf := goodIn_r _ [6, 1, 7, 8, 9, 5, 10, 11, 12, 13, 14, 15, 16, 17, 18, 19, 20, 21, 22, 23, 24, 25, 26, 27, 28, 29, 30, 31, 32, 33, 34, 35, 36, 37, 38, 39, 40, 41, 42, 43, 44, 45, 46, 47, 48, 49, 50, 51, 52, 53, 54, 55, 56, 57, 58, 59, 60, 61, 62, 63, 64, 65, 66, 67, 68, 69, 70, 71, 72, 73, 74, 75, 76, 77, 78, 79, 80, 90, 91, 92, 93, 94, 95, 96, 97, 98] (by decide +kernel) (by decide +kernel)
set_option maxRecDepth 20000 in
theorem gX4_lastChildOf_X4_closeOf : GoodIn wsX4_lastChildOf (wsV RX4 59 RX4 yX4_closeOf wsX4_closeOf) := goodIn_app (goodIn_of _ (by decide +kernel)) ggX4_lastChildOf_X4_closeOf
set_option maxRecDepth 20000 in
theorem ggX4_lastChildOf_X1_bitAt : GoodIn wsX4_lastChildOf wsX1_bitAt := goodIn_r _ [57, 20, 23, 93, 94, 95, 96, 97, 98] (by decide +kernel) (by decide +kernel)
set_option maxRecDepth 20000 in
theorem gX4_lastChildOf_X1_bitAt : GoodIn wsX4_lastChildOf (wsV RX4 44 RX1 yX1_bitAt wsX1_bitAt) := goodIn_app (goodIn_of _ (by decide +kernel)) ggX4_lastChildOf_X1_bitAt
set_option maxRecDepth 20000 in
theorem ggX4_lastChildOf_X4_nodeWithPlace : GoodIn wsX4_lastChildOf wsX4_nodeWithPlace := goodIn_r _ [85, 1, 81, 55, 56, 14, 57, 20, 23, 50, 51, 52, 53, 54, 58, 59, 60, 61, 24, 25, 26, 27, 28, 32, 33, 34, 35, 36, 37, 38, 62, 63, 64, 65, 22, 66, 67, 68, 69, 70, 71, 72, 73, 74, 75, 76, 77, 78, 79, 80, 86, 87, 88, 89, 90, 91, 92, 93, 94, 95, 96, 97, 98] (by decide +kernel) (by decide +kernel)
set_option maxRecDepth 20000 in
theorem gX4_lastChildOf_X4_nodeWithPlace : GoodIn wsX4_lastChildOf (wsV RX4 62 RX4 yX4_nodeWithPlace wsX4_nodeWithPlace) := goodIn_app (goodIn_of _ (by decide +kernel)) ggX4_lastChildOf_X4_nodeWithPlace
theorem dX4_lastChildOf_0 : decode cX4_lastChildOf 0 = .ok (.aload_n 0, 1) := by decide +kernel
theorem dX4_lastChildOf_1 : decode cX4_lastChildOf 1 = .ok (.iload_n 1, 1) := by decide +kernel
theorem dX4_lastChildOf_2 : decode cX4_lastChildOf 2 = .ok (.invokevirtual 59, 3) := by decide +kernel
theorem dX4_lastChildOf_5 : decode cX4_lastChildOf 5 = .ok (.iconst 1, 1) := by decide +kernel
theorem dX4_lastChildOf_6 : decode cX4_lastChildOf 6 = .ok (.isub, 1) := by decide +kernel
theorem dX4_lastChildOf_7 : decode cX4_lastChildOf 7 = .ok (.istore_n 2, 1) := by decide +kernel
theorem dX4_lastChildOf_8 : decode cX4_lastChildOf 8 = .ok (.aload_n 0, 1) := by decide +kernel
theorem dX4_lastChildOf_9 : decode cX4_lastChildOf 9 = .ok (.getfield 12, 3) := by decide +kernel
theorem dX4_lastChildOf_12 : decode cX4_lastChildOf 12 = .ok (.iload_n 2, 1) := by decide +kernel
theorem dX4_lastChildOf_13 : decode cX4_lastChildOf 13 = .ok (.invokevirtual 44, 3) := by decide +kernel
theorem dX4_lastChildOf_16 : decode cX4_lastChildOf 16 = .ok (.ifCond .ne 11, 3) := by decide +kernel
theorem dX4_lastChildOf_19 : decode cX4_lastChildOf 19 = .ok (.aload_n 0, 1) := by decide +kernel
theorem dX4_lastChildOf_20 : decode cX4_lastChildOf 20 = .ok (.iload_n 2, 1) := by decide +kernel
theorem dX4_lastChildOf_21 : decode cX4_lastChildOf 21 = .ok (.invokevirtual 62, 3) := by decide +kernel
theorem dX4_lastChildOf_24 : decode cX4_lastChildOf 24 = .ok (.goto 5, 3) := by decide +kernel
theorem dX4_lastChildOf_27 : decode cX4_lastChildOf 27 = .ok (.bipush (-4), 2) := by decide +kernel
theorem dX4_lastChildOf_29 : decode cX4_lastChildOf 29 = .ok (.ireturn, 1) := by decide +kernel
set_option maxRecDepth 20000 in
theorem ggX4_nextChildAfter_X4_closeOf : GoodIn wsX4_nextChildAfter wsX4_closeOf := goodIn_r _ [6, 1, 7, 8, 9, 5, 10, 11, 12, 13, 14, 15, 16, 17, 18, 19, 20, 21, 22, 23, 24, 25, 26, 27, 28, 29, 30, 31, 32, 33, 34, 35, 36, 37, 38, 39, 40, 41, 42, 43, 44, 45, 46, 47, 48, 49, 50, 51, 52, 53, 54, 55, 56, 57, 58, 59, 60, 61, 62, 63, 64, 65, 66, 67, 68, 69, 70, 71, 72, 73, 74, 75, 76, 77, 78, 79, 80, 90, 91, 92, 93, 94, 95, 96, 97, 98] (by decide +kernel) (by decide +kernel)
set_option maxRecDepth 20000 in
theorem gX4_nextChildAfter_X4_closeOf : GoodIn wsX4_nextChildAfter (wsV RX4 59 RX4 yX4_closeOf wsX4_closeOf) := goodIn_app (goodIn_of _ (by decide +kernel)) ggX4_nextChildAfter_X4_closeOf
set_option maxRecDepth 20000 in
theorem ggX4_nextChildAfter_X1_bitAt : GoodIn wsX4_nextChildAfter wsX1_bitAt := goodIn_r _ [57, 20, 23, 93, 94, 95, 96, 97, 98] (by decide +kernel) (by decide +kernel)
set_option maxRecDepth 20000 in
theorem gX4_nextChildAfter_X1_bitAt : GoodIn wsX4_nextChildAfter (wsV RX4 44 RX1 yX1_bitAt wsX1_bitAt) := goodIn_app (goodIn_of _ (by decide +kernel)) ggX4_nextChildAfter_X1_bitAt
set_option maxRecDepth 20000 in
theorem ggX4_nextChildAfter_X4_nodeWithPlace : GoodIn wsX4_nextChildAfter wsX4_nodeWithPlace := goodIn_r _ [85, 1, 81, 55, 56, 14, 57, 20, 23, 50, 51, 52, 53, 54, 58, 59, 60, 61, 24, 25, 26, 27, 28, 32, 33, 34, 35, 36, 37, 38, 62, 63, 64, 65, 22, 66, 67, 68, 69, 70, 71, 72, 73, 74, 75, 76, 77, 78, 79, 80, 86, 87, 88, 89, 90, 91, 92, 93, 94, 95, 96, 97, 98] (by decide +kernel) (by decide +kernel)
set_option maxRecDepth 20000 in
theorem gX4_nextChildAfter_X4_nodeWithPlace : GoodIn wsX4_nextChildAfter (wsV RX4 62 RX4 yX4_nodeWithPlace wsX4_nodeWithPlace) := goodIn_app (goodIn_of _ (by decide +kernel)) ggX4_nextChildAfter_X4_nodeWithPlace
theorem dX4_nextChildAfter_0 : decode cX4_nextChildAfter 0 = .ok (.aload_n 0, 1) := by decide +kernel
theorem dX4_nextChildAfter_1 : decode cX4_nextChildAfter 1 = .ok (.iload_n 1, 1) := by decide +kernel
theorem dX4_nextChildAfter_2 : decode cX4_nextChildAfter 2 = .ok (.invokevirtual 59, 3) := by decide +kernel
theorem dX4_nextChildAfter_5 : decode cX4_nextChildAfter 5 = .ok (.iconst 1, 1) := by decide +kernel
theorem dX4_nextChildAfter_6 : decode cX4_nextChildAfter 6 = .ok (.iadd, 1) := by decide +kernel
theorem dX4_nextChildAfter_7 : decode cX4_nextChildAfter 7 = .ok (.istore_n 2, 1) := by decide +kernel
theorem dX4_nextChildAfter_8 : decode cX4_nextChildAfter 8 = .ok (.iload_n 2, 1) := by decide +kernel
theorem dX4_nextChildAfter_9 : decode cX4_nextChildAfter 9 = .ok (.aload_n 0, 1) := by decide +kernel
theorem dX4_nextChildAfter_10 : decode cX4_nextChildAfter 10 = .ok (.getfield 12, 3) := by decide +kernel
theorem dX4_nextChildAfter_13 : decode cX4_nextChildAfter 13 = .ok (.getfield 25, 3) := by decide +kernel
theorem dX4_nextChildAfter_16 : decode cX4_nextChildAfter 16 = .ok (.if_icmp .ge 23, 3) := by decide +kernel
theorem dX4_nextChildAfter_19 : decode cX4_nextChildAfter 19 = .ok (.aload_n 0, 1) := by decide +kernel
theorem dX4_nextChildAfter_20 : decode cX4_nextChildAfter 20 = .ok (.getfield 12, 3) := by decide +kernel
theorem dX4_nextChildAfter_23 : decode cX4_nextChildAfter 23 = .ok (.iload_n 2, 1) := by decide +kernel
theorem dX4_nextChildAfter_24 : decode cX4_nextChildAfter 24 = .ok (.invokevirtual 44, 3) := by decide +kernel
theorem dX4_nextChildAfter_27 : decode cX4_nextChildAfter 27 = .ok (.iconst 1, 1) := by decide +kernel
theorem dX4_nextChildAfter_28 : decode cX4_nextChildAfter 28 = .ok (.if_icmp .ne 11, 3) := by decide +kernel
theorem dX4_nextChildAfter_31 : decode cX4_nextChildAfter 31 = .ok (.aload_n 0, 1) := by decide +kernel
theorem dX4_nextChildAfter_32 : decode cX4_nextChildAfter 32 = .ok (.iload_n 2, 1) := by decide +kernel
theorem dX4_nextChildAfter_33 : decode cX4_nextChildAfter 33 = .ok (.invokevirtual 62, 3) := by decide +kernel
theorem dX4_nextChildAfter_36 : decode cX4_nextChildAfter 36 = .ok (.goto 5, 3) := by decide +kernel
theorem dX4_nextChildAfter_39 : decode cX4_nextChildAfter 39 = .ok (.bipush (-4), 2) := by decide +kernel
theorem dX4_nextChildAfter_41 : decode cX4_nextChildAfter 41 = .ok (.ireturn, 1) := by decide +kernel
set_option maxRecDepth 20000 in
theorem ggX4_childBefore_X4_openOf : GoodIn wsX4_childBefore wsX4_openOf := goodIn_r _ [6, 1, 7, 8, 9, 10, 11, 12, 13, 14, 15, 16, 17, 18, 19, 20, 21, 22, 23, 24, 25, 26, 27, 28, 29, 30, 31, 32, 33, 34, 35, 36, 37, 38, 39, 40, 41, 42, 43, 44, 45, 86, 87, 88, 89, 90, 91, 92, 93, 94] (by decide +kernel) (by decide +kernel)
set_option maxRecDepth 20000 in
theorem gX4_childBefore_X4_openOf : GoodIn wsX4_childBefore (wsV RX4 37 RX4 yX4_openOf wsX4_openOf) := goodIn_app (goodIn_of _ (by decide +kernel)) ggX4_childBefore_X4_openOf
set_option maxRecDepth 20000 in
theorem ggX4_childBefore_X1_bitAt : GoodIn wsX4_childBefore wsX1_bitAt := goodIn_r _ [49, 16, 19, 89, 90, 91, 92, 93, 94] (by decide +kernel) (by decide +kernel)
set_option maxRecDepth 20000 in
theorem gX4_childBefore_X1_bitAt : GoodIn wsX4_childBefore (wsV RX4 44 RX1 yX1_bitAt wsX1_bitAt) := goodIn_app (goodIn_of _ (by decide +kernel)) ggX4_childBefore_X1_bitAt
set_option maxRecDepth 20000 in
theorem ggX4_childBefore_X4_nodeWithPlace : GoodIn wsX4_childBefore wsX4_nodeWithPlace := goodIn_r _ [53, 1, 46, 47, 48, 10, 49, 16, 19, 54, 55, 56, 57, 58, 59, 60, 61, 62, 20, 21, 22, 23, 24, 28, 29, 30, 31, 32, 33, 34, 63, 64, 65, 66, 18, 67, 68, 69, 70, 71, 72, 73, 74, 75, 76, 77, 78, 79, 80, 81, 82, 83, 84, 85, 86, 87, 88, 89, 90, 91, 92, 93, 94] (by decide +kernel) (by decide +kernel)
set_option maxRecDepth 20000 in
theorem gX4_childBefore_X4_nodeWithPlace : GoodIn wsX4_childBefore (wsV RX4 62 RX4 yX4_nodeWithPlace wsX4_nodeWithPlace) := goodIn_app (goodIn_of _ (by decide +kernel)) ggX4_childBefore_X4_nodeWithPlace
theorem dX4_childBefore_0 : decode cX4_childBefore 0 = .ok (.aload_n 0, 1) := by decide +kernel
theorem dX4_childBefore_1 : decode cX4_childBefore 1 = .ok (.iload_n 1, 1) := by decide +kernel
theorem dX4_childBefore_2 : decode cX4_childBefore 2 = .ok (.invokevirtual 37, 3) := by decide +kernel
theorem dX4_childBefore_5 : decode cX4_childBefore 5 = .ok (.iconst 1, 1) := by decide +kernel
theorem dX4_childBefore_6 : decode cX4_childBefore 6 = .ok (.isub, 1) := by decide +kernel
theorem dX4_childBefore_7 : decode cX4_childBefore 7 = .ok (.istore_n 2, 1) := by decide +kernel
theorem dX4_childBefore_8 : decode cX4_childBefore 8 = .ok (.iload_n 2, 1) := by decide +kernel
theorem dX4_childBefore_9 : decode cX4_childBefore 9 = .ok (.ifCond .lt 22, 3) := by decide +kernel
theorem dX4_childBefore_12 : decode cX4_childBefore 12 = .ok (.aload_n 0, 1) := by decide +kernel
theorem dX4_childBefore_13 : decode cX4_childBefore 13 = .ok (.getfield 12, 3) := by decide +kernel
theorem dX4_childBefore_16 : decode cX4_childBefore 16 = .ok (.iload_n 2, 1) := by decide +kernel
theorem dX4_childBefore_17 : decode cX4_childBefore 17 = .ok (.invokevirtual 44, 3) := by decide +kernel
theorem dX4_childBefore_20 : decode cX4_childBefore 20 = .ok (.ifCond .ne 11, 3) := by decide +kernel
theorem dX4_childBefore_23 : decode cX4_childBefore 23 = .ok (.aload_n 0, 1) := by decide +kernel
theorem dX4_childBefore_24 : decode cX4_childBefore 24 = .ok (.iload_n 2, 1) := by decide +kernel
theorem dX4_childBefore_25 : decode cX4_childBefore 25 = .ok (.invokevirtual 62, 3) := by decide +kernel
theorem dX4_childBefore_28 : decode cX4_childBefore 28 = .ok (.goto 5, 3) := by decide +kernel
theorem dX4_childBefore_31 : decode cX4_childBefore 31 = .ok (.bipush (-4), 2) := by decide +kernel
theorem dX4_childBefore_33 : decode cX4_childBefore 33 = .ok (.ireturn, 1) := by decide +kernel
set_option maxRecDepth 20000 in
theorem ggX4_childrenOf_X4_openOf : GoodIn wsX4_childrenOf wsX4_openOf := goodIn_r _ [6, 1, 7, 8, 9, 10, 11, 12, 13, 14, 15, 16, 17, 18, 19, 20, 21, 22, 23, 24, 25, 26, 27, 28, 29, 30, 31, 32, 33, 34, 35, 36, 37, 38, 39, 40, 41, 42, 43, 44, 45, 82, 83, 84, 85, 86, 87, 88, 89, 90] (by decide +kernel) (by decide +kernel)
set_option maxRecDepth 20000 in
theorem gX4_childrenOf_X4_openOf : GoodIn wsX4_childrenOf (wsV RX4 37 RX4 yX4_openOf wsX4_openOf) := goodIn_app (goodIn_of _ (by decide +kernel)) ggX4_childrenOf_X4_openOf
set_option maxRecDepth 20000 in
theorem ggX4_childrenOf_X1_partnerOf : GoodIn wsX4_childrenOf wsX1_partnerOf := goodIn_r _ [49, 50, 51, 52, 10, 53, 16, 19, 54, 55, 56, 57, 20, 21, 22, 23, 24, 28, 29, 30, 31, 32, 33, 34, 58, 59, 60, 61, 18, 62, 63, 64, 65, 66, 67, 68, 69, 70, 71, 72, 73, 74, 75, 76, 85, 86, 87, 88, 89, 90] (by decide +kernel) (by decide +kernel)
set_option maxRecDepth 20000 in
theorem gX4_childrenOf_X1_partnerOf : GoodIn wsX4_childrenOf (wsV RX4 41 RX1 yX1_partnerOf wsX1_partnerOf) := goodIn_app (goodIn_of _ (by decide +kernel)) ggX4_childrenOf_X1_partnerOf
set_option maxRecDepth 20000 in
theorem ggX4_childrenOf_X1_excessAt : GoodIn wsX4_childrenOf wsX1_excessAt := goodIn_r _ [57, 16, 19, 20, 21, 22, 23, 24, 28, 29, 30, 31, 32, 33, 34, 85, 86, 87, 88, 89, 90] (by decide +kernel) (by decide +kernel)
set_option maxRecDepth 20000 in
theorem gX4_childrenOf_X1_excessAt : GoodIn wsX4_childrenOf (wsV RX4 50 RX1 yX1_excessAt wsX1_excessAt) := goodIn_app (goodIn_of _ (by decide +kernel)) ggX4_childrenOf_X1_excessAt
set_option maxRecDepth 20000 in
theorem ggX4_childrenOf_X1_pointsWith : GoodIn wsX4_childrenOf wsX1_pointsWith := goodIn_r _ [81, 54, 55, 56, 10, 57, 16, 19, 20, 21, 22, 23, 24, 28, 29, 30, 31, 32, 33, 34, 69, 70, 71, 72, 85, 86, 87, 88, 89, 90] (by decide +kernel) (by decide +kernel)
set_option maxRecDepth 20000 in
theorem gX4_childrenOf_X1_pointsWith : GoodIn wsX4_childrenOf (wsV RX4 65 RX1 yX1_pointsWith wsX1_pointsWith) := goodIn_app (goodIn_of _ (by decide +kernel)) ggX4_childrenOf_X1_pointsWith
theorem dX4_childrenOf_0 : decode cX4_childrenOf 0 = .ok (.aload_n 0, 1) := by decide +kernel
theorem dX4_childrenOf_1 : decode cX4_childrenOf 1 = .ok (.iload_n 1, 1) := by decide +kernel
theorem dX4_childrenOf_2 : decode cX4_childrenOf 2 = .ok (.invokevirtual 37, 3) := by decide +kernel
theorem dX4_childrenOf_5 : decode cX4_childrenOf 5 = .ok (.istore_n 2, 1) := by decide +kernel
theorem dX4_childrenOf_6 : decode cX4_childrenOf 6 = .ok (.aload_n 0, 1) := by decide +kernel
theorem dX4_childrenOf_7 : decode cX4_childrenOf 7 = .ok (.getfield 12, 3) := by decide +kernel
theorem dX4_childrenOf_10 : decode cX4_childrenOf 10 = .ok (.iload_n 2, 1) := by decide +kernel
theorem dX4_childrenOf_11 : decode cX4_childrenOf 11 = .ok (.iconst 1, 1) := by decide +kernel
theorem dX4_childrenOf_12 : decode cX4_childrenOf 12 = .ok (.iadd, 1) := by decide +kernel
theorem dX4_childrenOf_13 : decode cX4_childrenOf 13 = .ok (.aload_n 0, 1) := by decide +kernel
theorem dX4_childrenOf_14 : decode cX4_childrenOf 14 = .ok (.getfield 12, 3) := by decide +kernel
theorem dX4_childrenOf_17 : decode cX4_childrenOf 17 = .ok (.iload_n 2, 1) := by decide +kernel
theorem dX4_childrenOf_18 : decode cX4_childrenOf 18 = .ok (.invokevirtual 41, 3) := by decide +kernel
theorem dX4_childrenOf_21 : decode cX4_childrenOf 21 = .ok (.aload_n 0, 1) := by decide +kernel
theorem dX4_childrenOf_22 : decode cX4_childrenOf 22 = .ok (.getfield 12, 3) := by decide +kernel
theorem dX4_childrenOf_25 : decode cX4_childrenOf 25 = .ok (.iload_n 2, 1) := by decide +kernel
theorem dX4_childrenOf_26 : decode cX4_childrenOf 26 = .ok (.invokevirtual 50, 3) := by decide +kernel
theorem dX4_childrenOf_29 : decode cX4_childrenOf 29 = .ok (.iconst 1, 1) := by decide +kernel
theorem dX4_childrenOf_30 : decode cX4_childrenOf 30 = .ok (.iadd, 1) := by decide +kernel
theorem dX4_childrenOf_31 : decode cX4_childrenOf 31 = .ok (.invokevirtual 65, 3) := by decide +kernel
theorem dX4_childrenOf_34 : decode cX4_childrenOf 34 = .ok (.iconst 1, 1) := by decide +kernel
theorem dX4_childrenOf_35 : decode cX4_childrenOf 35 = .ok (.isub, 1) := by decide +kernel
theorem dX4_childrenOf_36 : decode cX4_childrenOf 36 = .ok (.ireturn, 1) := by decide +kernel
set_option maxRecDepth 20000 in
theorem ggX4_childAt_X4_placeForChild : GoodIn wsX4_childAt wsX4_placeForChild := goodIn_r _ [6, 1, 7, 8, 9, 5, 10, 11, 12, 13, 14, 15, 16, 17, 18, 19, 20, 21, 22, 23, 24, 25, 26, 27, 28, 29, 30, 31, 32, 33, 34, 35, 36, 37, 38, 39, 40, 41, 42, 43, 44, 45, 46, 47, 48, 49, 50, 51, 52, 53, 54, 55, 56, 57, 58, 59, 60, 61, 62, 63, 64, 65, 66, 67, 68, 69, 70, 71, 72, 73, 78, 79, 80, 81, 82, 83, 84, 85, 86] (by decide +kernel) (by decide +kernel)
set_option maxRecDepth 20000 in
theorem gX4_childAt_X4_placeForChild : GoodIn wsX4_childAt (wsV RX4 69 RX4 yX4_placeForChild wsX4_placeForChild) := goodIn_app (goodIn_of _ (by decide +kernel)) ggX4_childAt_X4_placeForChild
set_option maxRecDepth 20000 in
theorem ggX4_childAt_X1_bitAt : GoodIn wsX4_childAt wsX1_bitAt := goodIn_r _ [57, 20, 23, 81, 82, 83, 84, 85, 86] (by decide +kernel) (by decide +kernel)
set_option maxRecDepth 20000 in
theorem gX4_childAt_X1_bitAt : GoodIn wsX4_childAt (wsV RX4 44 RX1 yX1_bitAt wsX1_bitAt) := goodIn_app (goodIn_of _ (by decide +kernel)) ggX4_childAt_X1_bitAt
set_option maxRecDepth 20000 in
theorem ggX4_childAt_X1_opensAhead : GoodIn wsX4_childAt wsX1_opensAhead := goodIn_r _ [77, 63, 51, 52, 14, 53, 20, 23, 24, 25, 26, 27, 28, 32, 33, 34, 35, 36, 37, 38, 81, 82, 83, 84, 85, 86] (by decide +kernel) (by decide +kernel)
set_option maxRecDepth 20000 in
theorem gX4_childAt_X1_opensAhead : GoodIn wsX4_childAt (wsV RX4 47 RX1 yX1_opensAhead wsX1_opensAhead) := goodIn_app (goodIn_of _ (by decide +kernel)) ggX4_childAt_X1_opensAhead
theorem dX4_childAt_0 : decode cX4_childAt 0 = .ok (.aload_n 0, 1) := by decide +kernel
theorem dX4_childAt_1 : decode cX4_childAt 1 = .ok (.iload_n 1, 1) := by decide +kernel
theorem dX4_childAt_2 : decode cX4_childAt 2 = .ok (.iload_n 2, 1) := by decide +kernel
theorem dX4_childAt_3 : decode cX4_childAt 3 = .ok (.invokevirtual 69, 3) := by decide +kernel
theorem dX4_childAt_6 : decode cX4_childAt 6 = .ok (.istore_n 3, 1) := by decide +kernel
theorem dX4_childAt_7 : decode cX4_childAt 7 = .ok (.aload_n 0, 1) := by decide +kernel
theorem dX4_childAt_8 : decode cX4_childAt 8 = .ok (.getfield 12, 3) := by decide +kernel
theorem dX4_childAt_11 : decode cX4_childAt 11 = .ok (.iload_n 3, 1) := by decide +kernel
theorem dX4_childAt_12 : decode cX4_childAt 12 = .ok (.invokevirtual 44, 3) := by decide +kernel
theorem dX4_childAt_15 : decode cX4_childAt 15 = .ok (.iconst 1, 1) := by decide +kernel
theorem dX4_childAt_16 : decode cX4_childAt 16 = .ok (.if_icmp .ne 14, 3) := by decide +kernel
theorem dX4_childAt_19 : decode cX4_childAt 19 = .ok (.aload_n 0, 1) := by decide +kernel
theorem dX4_childAt_20 : decode cX4_childAt 20 = .ok (.getfield 12, 3) := by decide +kernel
theorem dX4_childAt_23 : decode cX4_childAt 23 = .ok (.iload_n 3, 1) := by decide +kernel
theorem dX4_childAt_24 : decode cX4_childAt 24 = .ok (.invokevirtual 47, 3) := by decide +kernel
theorem dX4_childAt_27 : decode cX4_childAt 27 = .ok (.goto 5, 3) := by decide +kernel
theorem dX4_childAt_30 : decode cX4_childAt 30 = .ok (.bipush (-4), 2) := by decide +kernel
theorem dX4_childAt_32 : decode cX4_childAt 32 = .ok (.ireturn, 1) := by decide +kernel
set_option maxRecDepth 20000 in
theorem ggX4_orderOf_X4_openOf : GoodIn wsX4_orderOf wsX4_openOf := goodIn_r _ [6, 1, 7, 8, 9, 10, 11, 12, 13, 14, 15, 16, 17, 18, 19, 20, 21, 22, 23, 24, 25, 26, 27, 28, 29, 30, 31, 32, 33, 34, 35, 36, 37, 38, 39, 40, 41, 42, 43, 44, 45, 78, 79, 80, 81, 82, 83, 84, 85, 86] (by decide +kernel) (by decide +kernel)
set_option maxRecDepth 20000 in
theorem gX4_orderOf_X4_openOf : GoodIn wsX4_orderOf (wsV RX4 37 RX4 yX4_openOf wsX4_openOf) := goodIn_app (goodIn_of _ (by decide +kernel)) ggX4_orderOf_X4_openOf
set_option maxRecDepth 20000 in
theorem ggX4_orderOf_X4_aboveBy : GoodIn wsX4_orderOf wsX4_aboveBy := goodIn_r _ [49, 1, 2, 3, 4, 5, 6, 7, 8, 9, 10, 11, 12, 13, 14, 15, 16, 17, 18, 19, 20, 21, 22, 23, 24, 25, 26, 27, 28, 29, 30, 31, 32, 33, 34, 35, 36, 37, 38, 39, 40, 41, 42, 43, 44, 45, 50, 51, 52, 53, 54, 55, 56, 57, 58, 59, 60, 61, 62, 63, 64, 65, 66, 67, 68, 69, 70, 71, 72, 73, 78, 79, 80, 81, 82, 83, 84, 85, 86] (by decide +kernel) (by decide +kernel)
set_option maxRecDepth 20000 in
theorem gX4_orderOf_X4_aboveBy : GoodIn wsX4_orderOf (wsV RX4 72 RX4 yX4_aboveBy wsX4_aboveBy) := goodIn_app (goodIn_of _ (by decide +kernel)) ggX4_orderOf_X4_aboveBy
set_option maxRecDepth 20000 in
theorem ggX4_orderOf_X1_excessAt : GoodIn wsX4_orderOf wsX1_excessAt := goodIn_r _ [53, 16, 19, 20, 21, 22, 23, 24, 28, 29, 30, 31, 32, 33, 34, 81, 82, 83, 84, 85, 86] (by decide +kernel) (by decide +kernel)
set_option maxRecDepth 20000 in
theorem gX4_orderOf_X1_excessAt : GoodIn wsX4_orderOf (wsV RX4 50 RX1 yX1_excessAt wsX1_excessAt) := goodIn_app (goodIn_of _ (by decide +kernel)) ggX4_orderOf_X1_excessAt
set_option maxRecDepth 20000 in
theorem ggX4_orderOf_X1_pointsWith : GoodIn wsX4_orderOf wsX1_pointsWith := goodIn_r _ [77, 59, 51, 52, 10, 53, 16, 19, 20, 21, 22, 23, 24, 28, 29, 30, 31, 32, 33, 34, 60, 61, 62, 63, 81, 82, 83, 84, 85, 86] (by decide +kernel) (by decide +kernel)
set_option maxRecDepth 20000 in
theorem gX4_orderOf_X1_pointsWith : GoodIn wsX4_orderOf (wsV RX4 65 RX1 yX1_pointsWith wsX1_pointsWith) := goodIn_app (goodIn_of _ (by decide +kernel)) ggX4_orderOf_X1_pointsWith
theorem dX4_orderOf_0 : decode cX4_orderOf 0 = .ok (.iload_n 1, 1) := by decide +kernel
theorem dX4_orderOf_1 : decode cX4_orderOf 1 = .ok (.ifCond .ne 5, 3) := by decide +kernel
theorem dX4_orderOf_4 : decode cX4_orderOf 4 = .ok (.iconst 0, 1) := by decide +kernel
theorem dX4_orderOf_5 : decode cX4_orderOf 5 = .ok (.ireturn, 1) := by decide +kernel
theorem dX4_orderOf_6 : decode cX4_orderOf 6 = .ok (.aload_n 0, 1) := by decide +kernel
theorem dX4_orderOf_7 : decode cX4_orderOf 7 = .ok (.iload_n 1, 1) := by decide +kernel
theorem dX4_orderOf_8 : decode cX4_orderOf 8 = .ok (.invokevirtual 37, 3) := by decide +kernel
theorem dX4_orderOf_11 : decode cX4_orderOf 11 = .ok (.istore_n 2, 1) := by decide +kernel
theorem dX4_orderOf_12 : decode cX4_orderOf 12 = .ok (.aload_n 0, 1) := by decide +kernel
theorem dX4_orderOf_13 : decode cX4_orderOf 13 = .ok (.getfield 12, 3) := by decide +kernel
theorem dX4_orderOf_16 : decode cX4_orderOf 16 = .ok (.aload_n 0, 1) := by decide +kernel
theorem dX4_orderOf_17 : decode cX4_orderOf 17 = .ok (.aload_n 0, 1) := by decide +kernel
theorem dX4_orderOf_18 : decode cX4_orderOf 18 = .ok (.iload_n 1, 1) := by decide +kernel
theorem dX4_orderOf_19 : decode cX4_orderOf 19 = .ok (.iconst 1, 1) := by decide +kernel
theorem dX4_orderOf_20 : decode cX4_orderOf 20 = .ok (.invokevirtual 72, 3) := by decide +kernel
theorem dX4_orderOf_23 : decode cX4_orderOf 23 = .ok (.invokevirtual 37, 3) := by decide +kernel
theorem dX4_orderOf_26 : decode cX4_orderOf 26 = .ok (.iconst 1, 1) := by decide +kernel
theorem dX4_orderOf_27 : decode cX4_orderOf 27 = .ok (.iadd, 1) := by decide +kernel
theorem dX4_orderOf_28 : decode cX4_orderOf 28 = .ok (.iload_n 2, 1) := by decide +kernel
theorem dX4_orderOf_29 : decode cX4_orderOf 29 = .ok (.aload_n 0, 1) := by decide +kernel
theorem dX4_orderOf_30 : decode cX4_orderOf 30 = .ok (.getfield 12, 3) := by decide +kernel
theorem dX4_orderOf_33 : decode cX4_orderOf 33 = .ok (.iload_n 2, 1) := by decide +kernel
theorem dX4_orderOf_34 : decode cX4_orderOf 34 = .ok (.invokevirtual 50, 3) := by decide +kernel
theorem dX4_orderOf_37 : decode cX4_orderOf 37 = .ok (.invokevirtual 65, 3) := by decide +kernel
theorem dX4_orderOf_40 : decode cX4_orderOf 40 = .ok (.iconst 1, 1) := by decide +kernel
theorem dX4_orderOf_41 : decode cX4_orderOf 41 = .ok (.isub, 1) := by decide +kernel
theorem dX4_orderOf_42 : decode cX4_orderOf 42 = .ok (.ireturn, 1) := by decide +kernel
set_option maxRecDepth 20000 in
theorem ggX4_nodesOf_X4_openOf : GoodIn wsX4_nodesOf wsX4_openOf := goodIn_r _ [6, 1, 7, 8, 9, 10, 11, 12, 13, 14, 15, 16, 17, 18, 19, 20, 21, 22, 23, 24, 25, 26, 27, 28, 29, 30, 31, 32, 33, 34, 35, 36, 37, 38, 39, 40, 41, 42, 43, 44, 45, 77, 78, 79, 80, 81, 82, 83, 84, 85] (by decide +kernel) (by decide +kernel)
set_option maxRecDepth 20000 in
theorem gX4_nodesOf_X4_openOf : GoodIn wsX4_nodesOf (wsV RX4 37 RX4 yX4_openOf wsX4_openOf) := goodIn_app (goodIn_of _ (by decide +kernel)) ggX4_nodesOf_X4_openOf
set_option maxRecDepth 20000 in
theorem ggX4_nodesOf_X1_partnerOf : GoodIn wsX4_nodesOf wsX1_partnerOf := goodIn_r _ [49, 50, 51, 52, 10, 53, 16, 19, 54, 55, 56, 57, 20, 21, 22, 23, 24, 28, 29, 30, 31, 32, 33, 34, 58, 59, 60, 61, 18, 62, 63, 64, 65, 66, 67, 68, 69, 70, 71, 72, 73, 74, 75, 76, 80, 81, 82, 83, 84, 85] (by decide +kernel) (by decide +kernel)
set_option maxRecDepth 20000 in
theorem gX4_nodesOf_X1_partnerOf : GoodIn wsX4_nodesOf (wsV RX4 41 RX1 yX1_partnerOf wsX1_partnerOf) := goodIn_app (goodIn_of _ (by decide +kernel)) ggX4_nodesOf_X1_partnerOf
theorem dX4_nodesOf_0 : decode cX4_nodesOf 0 = .ok (.aload_n 0, 1) := by decide +kernel
theorem dX4_nodesOf_1 : decode cX4_nodesOf 1 = .ok (.iload_n 1, 1) := by decide +kernel
theorem dX4_nodesOf_2 : decode cX4_nodesOf 2 = .ok (.invokevirtual 37, 3) := by decide +kernel
theorem dX4_nodesOf_5 : decode cX4_nodesOf 5 = .ok (.istore_n 2, 1) := by decide +kernel
theorem dX4_nodesOf_6 : decode cX4_nodesOf 6 = .ok (.aload_n 0, 1) := by decide +kernel
theorem dX4_nodesOf_7 : decode cX4_nodesOf 7 = .ok (.getfield 12, 3) := by decide +kernel
theorem dX4_nodesOf_10 : decode cX4_nodesOf 10 = .ok (.iload_n 2, 1) := by decide +kernel
theorem dX4_nodesOf_11 : decode cX4_nodesOf 11 = .ok (.invokevirtual 41, 3) := by decide +kernel
theorem dX4_nodesOf_14 : decode cX4_nodesOf 14 = .ok (.iload_n 2, 1) := by decide +kernel
theorem dX4_nodesOf_15 : decode cX4_nodesOf 15 = .ok (.isub, 1) := by decide +kernel
theorem dX4_nodesOf_16 : decode cX4_nodesOf 16 = .ok (.iconst 1, 1) := by decide +kernel
theorem dX4_nodesOf_17 : decode cX4_nodesOf 17 = .ok (.iadd, 1) := by decide +kernel
theorem dX4_nodesOf_18 : decode cX4_nodesOf 18 = .ok (.iconst 2, 1) := by decide +kernel
theorem dX4_nodesOf_19 : decode cX4_nodesOf 19 = .ok (.idiv, 1) := by decide +kernel
theorem dX4_nodesOf_20 : decode cX4_nodesOf 20 = .ok (.ireturn, 1) := by decide +kernel
set_option maxRecDepth 20000 in
theorem ggX4_leavesOf_X4_openOf : GoodIn wsX4_leavesOf wsX4_openOf := goodIn_r _ [6, 1, 7, 8, 9, 10, 11, 12, 13, 14, 15, 16, 17, 18, 19, 20, 21, 22, 23, 24, 25, 26, 27, 28, 29, 30, 31, 32, 33, 34, 35, 36, 37, 38, 39, 40, 41, 42, 43, 44, 45, 81, 82, 83, 84, 85, 86, 87, 88, 89] (by decide +kernel) (by decide +kernel)
set_option maxRecDepth 20000 in
theorem gX4_leavesOf_X4_openOf : GoodIn wsX4_leavesOf (wsV RX4 37 RX4 yX4_openOf wsX4_openOf) := goodIn_app (goodIn_of _ (by decide +kernel)) ggX4_leavesOf_X4_openOf
set_option maxRecDepth 20000 in
theorem ggX4_leavesOf_X1_partnerOf : GoodIn wsX4_leavesOf wsX1_partnerOf := goodIn_r _ [49, 50, 51, 52, 10, 53, 16, 19, 54, 55, 56, 57, 20, 21, 22, 23, 24, 28, 29, 30, 31, 32, 33, 34, 58, 59, 60, 61, 18, 62, 63, 64, 65, 66, 67, 68, 69, 70, 71, 72, 73, 74, 75, 76, 84, 85, 86, 87, 88, 89] (by decide +kernel) (by decide +kernel)
set_option maxRecDepth 20000 in
theorem gX4_leavesOf_X1_partnerOf : GoodIn wsX4_leavesOf (wsV RX4 41 RX1 yX1_partnerOf wsX1_partnerOf) := goodIn_app (goodIn_of _ (by decide +kernel)) ggX4_leavesOf_X1_partnerOf
set_option maxRecDepth 20000 in
theorem ggX4_leavesOf_X1_signsAhead : GoodIn wsX4_leavesOf wsX1_signsAhead := goodIn_r _ [80, 12, 13, 14, 10, 15, 16, 17, 18, 19, 20, 21, 22, 23, 24, 25, 26, 27, 28, 29, 30, 31, 32, 33, 34, 39, 40, 41, 42, 43, 44, 45, 84, 85, 86, 87, 88, 89] (by decide +kernel) (by decide +kernel)
set_option maxRecDepth 20000 in
theorem gX4_leavesOf_X1_signsAhead : GoodIn wsX4_leavesOf (wsV RX4 75 RX1 yX1_signsAhead wsX1_signsAhead) := goodIn_app (goodIn_of _ (by decide +kernel)) ggX4_leavesOf_X1_signsAhead
theorem dX4_leavesOf_0 : decode cX4_leavesOf 0 = .ok (.aload_n 0, 1) := by decide +kernel
theorem dX4_leavesOf_1 : decode cX4_leavesOf 1 = .ok (.iload_n 1, 1) := by decide +kernel
theorem dX4_leavesOf_2 : decode cX4_leavesOf 2 = .ok (.invokevirtual 37, 3) := by decide +kernel
theorem dX4_leavesOf_5 : decode cX4_leavesOf 5 = .ok (.istore_n 2, 1) := by decide +kernel
theorem dX4_leavesOf_6 : decode cX4_leavesOf 6 = .ok (.aload_n 0, 1) := by decide +kernel
theorem dX4_leavesOf_7 : decode cX4_leavesOf 7 = .ok (.getfield 12, 3) := by decide +kernel
theorem dX4_leavesOf_10 : decode cX4_leavesOf 10 = .ok (.aload_n 0, 1) := by decide +kernel
theorem dX4_leavesOf_11 : decode cX4_leavesOf 11 = .ok (.getfield 12, 3) := by decide +kernel
theorem dX4_leavesOf_14 : decode cX4_leavesOf 14 = .ok (.iload_n 2, 1) := by decide +kernel
theorem dX4_leavesOf_15 : decode cX4_leavesOf 15 = .ok (.invokevirtual 41, 3) := by decide +kernel
theorem dX4_leavesOf_18 : decode cX4_leavesOf 18 = .ok (.iconst 2, 1) := by decide +kernel
theorem dX4_leavesOf_19 : decode cX4_leavesOf 19 = .ok (.invokevirtual 75, 3) := by decide +kernel
theorem dX4_leavesOf_22 : decode cX4_leavesOf 22 = .ok (.aload_n 0, 1) := by decide +kernel
theorem dX4_leavesOf_23 : decode cX4_leavesOf 23 = .ok (.getfield 12, 3) := by decide +kernel
theorem dX4_leavesOf_26 : decode cX4_leavesOf 26 = .ok (.iload_n 2, 1) := by decide +kernel
theorem dX4_leavesOf_27 : decode cX4_leavesOf 27 = .ok (.iconst 2, 1) := by decide +kernel
theorem dX4_leavesOf_28 : decode cX4_leavesOf 28 = .ok (.invokevirtual 75, 3) := by decide +kernel
theorem dX4_leavesOf_31 : decode cX4_leavesOf 31 = .ok (.isub, 1) := by decide +kernel
theorem dX4_leavesOf_32 : decode cX4_leavesOf 32 = .ok (.ireturn, 1) := by decide +kernel
set_option maxRecDepth 20000 in
theorem ggX4_heightOf_X4_openOf : GoodIn wsX4_heightOf wsX4_openOf := goodIn_r _ [6, 1, 7, 8, 9, 10, 11, 12, 13, 14, 15, 16, 17, 18, 19, 20, 21, 22, 23, 24, 25, 26, 27, 28, 29, 30, 31, 32, 33, 34, 35, 36, 37, 38, 39, 40, 41, 42, 43, 44, 45, 89, 90, 91, 92, 93, 94, 95, 96, 97] (by decide +kernel) (by decide +kernel)
set_option maxRecDepth 20000 in
theorem gX4_heightOf_X4_openOf : GoodIn wsX4_heightOf (wsV RX4 37 RX4 yX4_openOf wsX4_openOf) := goodIn_app (goodIn_of _ (by decide +kernel)) ggX4_heightOf_X4_openOf
set_option maxRecDepth 20000 in
theorem ggX4_heightOf_X1_partnerOf : GoodIn wsX4_heightOf wsX1_partnerOf := goodIn_r _ [49, 50, 51, 52, 10, 53, 16, 19, 54, 55, 56, 57, 20, 21, 22, 23, 24, 28, 29, 30, 31, 32, 33, 34, 58, 59, 60, 61, 18, 62, 63, 64, 65, 66, 67, 68, 69, 70, 71, 72, 73, 74, 75, 76, 92, 93, 94, 95, 96, 97] (by decide +kernel) (by decide +kernel)
set_option maxRecDepth 20000 in
theorem gX4_heightOf_X1_partnerOf : GoodIn wsX4_heightOf (wsV RX4 41 RX1 yX1_partnerOf wsX1_partnerOf) := goodIn_app (goodIn_of _ (by decide +kernel)) ggX4_heightOf_X1_partnerOf
set_option maxRecDepth 20000 in
theorem ggX4_heightOf_X1_extremeIn : GoodIn wsX4_heightOf wsX1_extremeIn := goodIn_r _ [80, 68, 67, 62, 81, 82, 83, 84, 85, 86, 87, 54, 55, 56, 10, 57, 16, 19, 20, 21, 22, 23, 24, 28, 29, 30, 31, 32, 33, 34, 69, 70, 71, 72, 92, 93, 94, 95, 96, 97] (by decide +kernel) (by decide +kernel)
set_option maxRecDepth 20000 in
theorem gX4_heightOf_X1_extremeIn : GoodIn wsX4_heightOf (wsV RX4 78 RX1 yX1_extremeIn wsX1_extremeIn) := goodIn_app (goodIn_of _ (by decide +kernel)) ggX4_heightOf_X1_extremeIn
set_option maxRecDepth 20000 in
theorem ggX4_heightOf_X1_excessAt : GoodIn wsX4_heightOf wsX1_excessAt := goodIn_r _ [57, 16, 19, 20, 21, 22, 23, 24, 28, 29, 30, 31, 32, 33, 34, 92, 93, 94, 95, 96, 97] (by decide +kernel) (by decide +kernel)
set_option maxRecDepth 20000 in
theorem gX4_heightOf_X1_excessAt : GoodIn wsX4_heightOf (wsV RX4 50 RX1 yX1_excessAt wsX1_excessAt) := goodIn_app (goodIn_of _ (by decide +kernel)) ggX4_heightOf_X1_excessAt
theorem dX4_heightOf_0 : decode cX4_heightOf 0 = .ok (.aload_n 0, 1) := by decide +kernel
theorem dX4_heightOf_1 : decode cX4_heightOf 1 = .ok (.iload_n 1, 1) := by decide +kernel
theorem dX4_heightOf_2 : decode cX4_heightOf 2 = .ok (.invokevirtual 37, 3) := by decide +kernel
theorem dX4_heightOf_5 : decode cX4_heightOf 5 = .ok (.istore_n 2, 1) := by decide +kernel
theorem dX4_heightOf_6 : decode cX4_heightOf 6 = .ok (.aload_n 0, 1) := by decide +kernel
theorem dX4_heightOf_7 : decode cX4_heightOf 7 = .ok (.getfield 12, 3) := by decide +kernel
theorem dX4_heightOf_10 : decode cX4_heightOf 10 = .ok (.iload_n 2, 1) := by decide +kernel
theorem dX4_heightOf_11 : decode cX4_heightOf 11 = .ok (.aload_n 0, 1) := by decide +kernel
theorem dX4_heightOf_12 : decode cX4_heightOf 12 = .ok (.getfield 12, 3) := by decide +kernel
theorem dX4_heightOf_15 : decode cX4_heightOf 15 = .ok (.iload_n 2, 1) := by decide +kernel
theorem dX4_heightOf_16 : decode cX4_heightOf 16 = .ok (.invokevirtual 41, 3) := by decide +kernel
theorem dX4_heightOf_19 : decode cX4_heightOf 19 = .ok (.iconst 1, 1) := by decide +kernel
theorem dX4_heightOf_20 : decode cX4_heightOf 20 = .ok (.invokevirtual 78, 3) := by decide +kernel
theorem dX4_heightOf_23 : decode cX4_heightOf 23 = .ok (.aload_n 0, 1) := by decide +kernel
theorem dX4_heightOf_24 : decode cX4_heightOf 24 = .ok (.getfield 12, 3) := by decide +kernel
theorem dX4_heightOf_27 : decode cX4_heightOf 27 = .ok (.iload_n 2, 1) := by decide +kernel
theorem dX4_heightOf_28 : decode cX4_heightOf 28 = .ok (.invokevirtual 50, 3) := by decide +kernel
theorem dX4_heightOf_31 : decode cX4_heightOf 31 = .ok (.isub, 1) := by decide +kernel
theorem dX4_heightOf_32 : decode cX4_heightOf 32 = .ok (.iconst 1, 1) := by decide +kernel
theorem dX4_heightOf_33 : decode cX4_heightOf 33 = .ok (.isub, 1) := by decide +kernel
theorem dX4_heightOf_34 : decode cX4_heightOf 34 = .ok (.ireturn, 1) := by decide +kernel
set_option maxRecDepth 20000 in
theorem ggX4_deepestOf_X4_openOf : GoodIn wsX4_deepestOf wsX4_openOf := goodIn_r _ [6, 1, 7, 8, 9, 10, 11, 12, 13, 14, 15, 16, 17, 18, 19, 20, 21, 22, 23, 24, 25, 26, 27, 28, 29, 30, 31, 32, 33, 34, 35, 36, 37, 38, 39, 40, 41, 42, 43, 44, 45, 96, 97, 98, 99, 100, 101, 102, 103, 104] (by decide +kernel) (by decide +kernel)
set_option maxRecDepth 20000 in
theorem gX4_deepestOf_X4_openOf : GoodIn wsX4_deepestOf (wsV RX4 37 RX4 yX4_openOf wsX4_openOf) := goodIn_app (goodIn_of _ (by decide +kernel)) ggX4_deepestOf_X4_openOf
set_option maxRecDepth 20000 in
theorem ggX4_deepestOf_X1_partnerOf : GoodIn wsX4_deepestOf wsX1_partnerOf := goodIn_r _ [49, 50, 51, 52, 10, 53, 16, 19, 54, 55, 56, 57, 20, 21, 22, 23, 24, 28, 29, 30, 31, 32, 33, 34, 58, 59, 60, 61, 18, 62, 63, 64, 65, 66, 67, 68, 69, 70, 71, 72, 73, 74, 75, 76, 99, 100, 101, 102, 103, 104] (by decide +kernel) (by decide +kernel)
set_option maxRecDepth 20000 in
theorem gX4_deepestOf_X1_partnerOf : GoodIn wsX4_deepestOf (wsV RX4 41 RX1 yX1_partnerOf wsX1_partnerOf) := goodIn_app (goodIn_of _ (by decide +kernel)) ggX4_deepestOf_X1_partnerOf
set_option maxRecDepth 20000 in
theorem ggX4_deepestOf_X1_extremeIn : GoodIn wsX4_deepestOf wsX1_extremeIn := goodIn_r _ [80, 68, 67, 62, 81, 82, 83, 84, 85, 86, 87, 54, 55, 56, 10, 57, 16, 19, 20, 21, 22, 23, 24, 28, 29, 30, 31, 32, 33, 34, 69, 70, 71, 72, 99, 100, 101, 102, 103, 104] (by decide +kernel) (by decide +kernel)
set_option maxRecDepth 20000 in
theorem gX4_deepestOf_X1_extremeIn : GoodIn wsX4_deepestOf (wsV RX4 78 RX1 yX1_extremeIn wsX1_extremeIn) := goodIn_app (goodIn_of _ (by decide +kernel)) ggX4_deepestOf_X1_extremeIn
set_option maxRecDepth 20000 in
theorem ggX4_deepestOf_X1_firstWith : GoodIn wsX4_deepestOf wsX1_firstWith := goodIn_r _ [91, 54, 55, 56, 10, 57, 16, 19, 20, 21, 22, 23, 24, 28, 29, 30, 31, 32, 33, 34, 58, 59, 60, 61, 18, 62, 63, 64, 65, 66, 67, 68, 69, 70, 71, 72, 99, 100, 101, 102, 103, 104] (by decide +kernel) (by decide +kernel)
set_option maxRecDepth 20000 in
theorem gX4_deepestOf_X1_firstWith : GoodIn wsX4_deepestOf (wsV RX4 82 RX1 yX1_firstWith wsX1_firstWith) := goodIn_app (goodIn_of _ (by decide +kernel)) ggX4_deepestOf_X1_firstWith
