theorem dX1_init_0 : decode cX1_init 0 = .ok (.aload_n 0, 1) := by decide +kernel
theorem dX1_init_1 : decode cX1_init 1 = .ok (.invokespecial 3, 3) := by decide +kernel
theorem dX1_init_4 : decode cX1_init 4 = .ok (.aload_n 0, 1) := by decide +kernel
theorem dX1_init_5 : decode cX1_init 5 = .ok (.bipush 8, 2) := by decide +kernel
theorem dX1_init_7 : decode cX1_init 7 = .ok (.newarray .int, 2) := by decide +kernel
theorem dX1_init_9 : decode cX1_init 9 = .ok (.putfield 9, 3) := by decide +kernel
theorem dX1_init_12 : decode cX1_init 12 = .ok (.aload_n 0, 1) := by decide +kernel
theorem dX1_init_13 : decode cX1_init 13 = .ok (.bipush 8, 2) := by decide +kernel
theorem dX1_init_15 : decode cX1_init 15 = .ok (.newarray .int, 2) := by decide +kernel
theorem dX1_init_17 : decode cX1_init 17 = .ok (.putfield 15, 3) := by decide +kernel
theorem dX1_init_20 : decode cX1_init 20 = .ok (.aload_n 0, 1) := by decide +kernel
theorem dX1_init_21 : decode cX1_init 21 = .ok (.bipush 8, 2) := by decide +kernel
theorem dX1_init_23 : decode cX1_init 23 = .ok (.newarray .int, 2) := by decide +kernel
theorem dX1_init_25 : decode cX1_init 25 = .ok (.putfield 18, 3) := by decide +kernel
theorem dX1_init_28 : decode cX1_init 28 = .ok (.return_, 1) := by decide +kernel
theorem dX1_blocks_0 : decode cX1_blocks 0 = .ok (.aload_n 0, 1) := by decide +kernel
theorem dX1_blocks_1 : decode cX1_blocks 1 = .ok (.getfield 21, 3) := by decide +kernel
theorem dX1_blocks_4 : decode cX1_blocks 4 = .ok (.bipush 16, 2) := by decide +kernel
theorem dX1_blocks_6 : decode cX1_blocks 6 = .ok (.iadd, 1) := by decide +kernel
theorem dX1_blocks_7 : decode cX1_blocks 7 = .ok (.iconst 1, 1) := by decide +kernel
theorem dX1_blocks_8 : decode cX1_blocks 8 = .ok (.isub, 1) := by decide +kernel
theorem dX1_blocks_9 : decode cX1_blocks 9 = .ok (.bipush 16, 2) := by decide +kernel
theorem dX1_blocks_11 : decode cX1_blocks 11 = .ok (.idiv, 1) := by decide +kernel
theorem dX1_blocks_12 : decode cX1_blocks 12 = .ok (.ireturn, 1) := by decide +kernel
theorem dX1_bitAt_0 : decode cX1_bitAt 0 = .ok (.iload_n 1, 1) := by decide +kernel
theorem dX1_bitAt_1 : decode cX1_bitAt 1 = .ok (.bipush 64, 2) := by decide +kernel
theorem dX1_bitAt_3 : decode cX1_bitAt 3 = .ok (.if_icmp .ge 10, 3) := by decide +kernel
theorem dX1_bitAt_6 : decode cX1_bitAt 6 = .ok (.aload_n 0, 1) := by decide +kernel
theorem dX1_bitAt_7 : decode cX1_bitAt 7 = .ok (.getfield 25, 3) := by decide +kernel
theorem dX1_bitAt_10 : decode cX1_bitAt 10 = .ok (.goto 7, 3) := by decide +kernel
theorem dX1_bitAt_13 : decode cX1_bitAt 13 = .ok (.aload_n 0, 1) := by decide +kernel
theorem dX1_bitAt_14 : decode cX1_bitAt 14 = .ok (.getfield 29, 3) := by decide +kernel
theorem dX1_bitAt_17 : decode cX1_bitAt 17 = .ok (.iload_n 1, 1) := by decide +kernel
theorem dX1_bitAt_18 : decode cX1_bitAt 18 = .ok (.bipush 63, 2) := by decide +kernel
theorem dX1_bitAt_20 : decode cX1_bitAt 20 = .ok (.iand, 1) := by decide +kernel
theorem dX1_bitAt_21 : decode cX1_bitAt 21 = .ok (.lushr, 1) := by decide +kernel
theorem dX1_bitAt_22 : decode cX1_bitAt 22 = .ok (.l2i, 1) := by decide +kernel
theorem dX1_bitAt_23 : decode cX1_bitAt 23 = .ok (.iconst 1, 1) := by decide +kernel
theorem dX1_bitAt_24 : decode cX1_bitAt 24 = .ok (.iand, 1) := by decide +kernel
theorem dX1_bitAt_25 : decode cX1_bitAt 25 = .ok (.ireturn, 1) := by decide +kernel
theorem dX1_stepAt_0 : decode cX1_stepAt 0 = .ok (.iload_n 1, 1) := by decide +kernel
theorem dX1_stepAt_1 : decode cX1_stepAt 1 = .ok (.bipush 64, 2) := by decide +kernel
theorem dX1_stepAt_3 : decode cX1_stepAt 3 = .ok (.if_icmp .ge 10, 3) := by decide +kernel
theorem dX1_stepAt_6 : decode cX1_stepAt 6 = .ok (.aload_n 0, 1) := by decide +kernel
theorem dX1_stepAt_7 : decode cX1_stepAt 7 = .ok (.getfield 25, 3) := by decide +kernel
theorem dX1_stepAt_10 : decode cX1_stepAt 10 = .ok (.goto 7, 3) := by decide +kernel
theorem dX1_stepAt_13 : decode cX1_stepAt 13 = .ok (.aload_n 0, 1) := by decide +kernel
theorem dX1_stepAt_14 : decode cX1_stepAt 14 = .ok (.getfield 29, 3) := by decide +kernel
theorem dX1_stepAt_17 : decode cX1_stepAt 17 = .ok (.iload_n 1, 1) := by decide +kernel
theorem dX1_stepAt_18 : decode cX1_stepAt 18 = .ok (.bipush 63, 2) := by decide +kernel
theorem dX1_stepAt_20 : decode cX1_stepAt 20 = .ok (.iand, 1) := by decide +kernel
theorem dX1_stepAt_21 : decode cX1_stepAt 21 = .ok (.lushr, 1) := by decide +kernel
theorem dX1_stepAt_22 : decode cX1_stepAt 22 = .ok (.lconst 1, 1) := by decide +kernel
theorem dX1_stepAt_23 : decode cX1_stepAt 23 = .ok (.land, 1) := by decide +kernel
theorem dX1_stepAt_24 : decode cX1_stepAt 24 = .ok (.lconst 1, 1) := by decide +kernel
theorem dX1_stepAt_25 : decode cX1_stepAt 25 = .ok (.lcmp, 1) := by decide +kernel
theorem dX1_stepAt_26 : decode cX1_stepAt 26 = .ok (.ifCond .ne 7, 3) := by decide +kernel
theorem dX1_stepAt_29 : decode cX1_stepAt 29 = .ok (.iconst 1, 1) := by decide +kernel
theorem dX1_stepAt_30 : decode cX1_stepAt 30 = .ok (.goto 4, 3) := by decide +kernel
theorem dX1_stepAt_33 : decode cX1_stepAt 33 = .ok (.iconst (-1), 1) := by decide +kernel
theorem dX1_stepAt_34 : decode cX1_stepAt 34 = .ok (.ireturn, 1) := by decide +kernel
set_option maxRecDepth 20000 in
theorem ggX1_excessAt_X0_firstOf : GoodIn wsX1_excessAt wsX0_firstOf := goodIn_r _ [6, 7] rfl (by decide +kernel)
set_option maxRecDepth 20000 in
theorem gX1_excessAt_X0_firstOf : GoodIn wsX1_excessAt (va_wsS RX1 32 yX0_firstOf wsX0_firstOf) := goodIn_app (goodIn_of _ (by decide +kernel)) ggX1_excessAt_X0_firstOf
set_option maxRecDepth 20000 in
theorem ggX1_excessAt_J13_bitCount_95d88 : GoodIn wsX1_excessAt wsJ13_bitCount_95d88 := goodIn_r _ [11, 12, 13, 14] rfl (by decide +kernel)
set_option maxRecDepth 20000 in
theorem gX1_excessAt_J13_bitCount_95d88 : GoodIn wsX1_excessAt (va_wsS RX1 38 yJ13_bitCount_95d88 wsJ13_bitCount_95d88) := goodIn_app (goodIn_of _ (by decide +kernel)) ggX1_excessAt_J13_bitCount_95d88
theorem dX1_excessAt_0 : decode cX1_excessAt 0 = .ok (.iconst 2, 1) := by decide +kernel
theorem dX1_excessAt_1 : decode cX1_excessAt 1 = .ok (.aload_n 0, 1) := by decide +kernel
theorem dX1_excessAt_2 : decode cX1_excessAt 2 = .ok (.getfield 25, 3) := by decide +kernel
theorem dX1_excessAt_5 : decode cX1_excessAt 5 = .ok (.iload_n 1, 1) := by decide +kernel
theorem dX1_excessAt_6 : decode cX1_excessAt 6 = .ok (.invokestatic 32, 3) := by decide +kernel
theorem dX1_excessAt_9 : decode cX1_excessAt 9 = .ok (.land, 1) := by decide +kernel
theorem dX1_excessAt_10 : decode cX1_excessAt 10 = .ok (.invokestatic 38, 3) := by decide +kernel
theorem dX1_excessAt_13 : decode cX1_excessAt 13 = .ok (.imul, 1) := by decide +kernel
theorem dX1_excessAt_14 : decode cX1_excessAt 14 = .ok (.iconst 2, 1) := by decide +kernel
theorem dX1_excessAt_15 : decode cX1_excessAt 15 = .ok (.aload_n 0, 1) := by decide +kernel
theorem dX1_excessAt_16 : decode cX1_excessAt 16 = .ok (.getfield 29, 3) := by decide +kernel
theorem dX1_excessAt_19 : decode cX1_excessAt 19 = .ok (.iload_n 1, 1) := by decide +kernel
theorem dX1_excessAt_20 : decode cX1_excessAt 20 = .ok (.bipush 64, 2) := by decide +kernel
theorem dX1_excessAt_22 : decode cX1_excessAt 22 = .ok (.isub, 1) := by decide +kernel
theorem dX1_excessAt_23 : decode cX1_excessAt 23 = .ok (.invokestatic 32, 3) := by decide +kernel
theorem dX1_excessAt_26 : decode cX1_excessAt 26 = .ok (.land, 1) := by decide +kernel
theorem dX1_excessAt_27 : decode cX1_excessAt 27 = .ok (.invokestatic 38, 3) := by decide +kernel
theorem dX1_excessAt_30 : decode cX1_excessAt 30 = .ok (.imul, 1) := by decide +kernel
theorem dX1_excessAt_31 : decode cX1_excessAt 31 = .ok (.iadd, 1) := by decide +kernel
theorem dX1_excessAt_32 : decode cX1_excessAt 32 = .ok (.iload_n 1, 1) := by decide +kernel
theorem dX1_excessAt_33 : decode cX1_excessAt 33 = .ok (.isub, 1) := by decide +kernel
theorem dX1_excessAt_34 : decode cX1_excessAt 34 = .ok (.ireturn, 1) := by decide +kernel
set_option maxRecDepth 20000 in
theorem ggX1_opensAhead_X1_excessAt : GoodIn wsX1_opensAhead wsX1_excessAt := goodIn_r _ [5, 6, 7, 8, 9, 10, 11, 12, 13, 14, 15, 16, 17, 18, 19, 20, 21, 22, 23, 24, 25] rfl (by decide +kernel)
set_option maxRecDepth 20000 in
theorem gX1_opensAhead_X1_excessAt : GoodIn wsX1_opensAhead (wsV RX1 44 RX1 yX1_excessAt wsX1_excessAt) := goodIn_app (goodIn_of _ (by decide +kernel)) ggX1_opensAhead_X1_excessAt
theorem dX1_opensAhead_0 : decode cX1_opensAhead 0 = .ok (.iload_n 1, 1) := by decide +kernel
theorem dX1_opensAhead_1 : decode cX1_opensAhead 1 = .ok (.aload_n 0, 1) := by decide +kernel
theorem dX1_opensAhead_2 : decode cX1_opensAhead 2 = .ok (.iload_n 1, 1) := by decide +kernel
theorem dX1_opensAhead_3 : decode cX1_opensAhead 3 = .ok (.invokevirtual 44, 3) := by decide +kernel
theorem dX1_opensAhead_6 : decode cX1_opensAhead 6 = .ok (.iadd, 1) := by decide +kernel
theorem dX1_opensAhead_7 : decode cX1_opensAhead 7 = .ok (.iconst 2, 1) := by decide +kernel
theorem dX1_opensAhead_8 : decode cX1_opensAhead 8 = .ok (.idiv, 1) := by decide +kernel
theorem dX1_opensAhead_9 : decode cX1_opensAhead 9 = .ok (.ireturn, 1) := by decide +kernel
set_option maxRecDepth 20000 in
theorem ggX1_opensAtOddPlaces_J13_bitCount_95d88 : GoodIn wsX1_opensAtOddPlaces wsJ13_bitCount_95d88 := goodIn_r _ [7, 8, 9, 10] rfl (by decide +kernel)
set_option maxRecDepth 20000 in
theorem gX1_opensAtOddPlaces_J13_bitCount_95d88 : GoodIn wsX1_opensAtOddPlaces (va_wsS RX1 38 yJ13_bitCount_95d88 wsJ13_bitCount_95d88) := goodIn_app (goodIn_of _ (by decide +kernel)) ggX1_opensAtOddPlaces_J13_bitCount_95d88
theorem dX1_opensAtOddPlaces_0 : decode cX1_opensAtOddPlaces 0 = .ok (.ldc2_w 48, 3) := by decide +kernel
theorem dX1_opensAtOddPlaces_3 : decode cX1_opensAtOddPlaces 3 = .ok (.lstore_n 1, 1) := by decide +kernel
theorem dX1_opensAtOddPlaces_4 : decode cX1_opensAtOddPlaces 4 = .ok (.aload_n 0, 1) := by decide +kernel
theorem dX1_opensAtOddPlaces_5 : decode cX1_opensAtOddPlaces 5 = .ok (.getfield 25, 3) := by decide +kernel
theorem dX1_opensAtOddPlaces_8 : decode cX1_opensAtOddPlaces 8 = .ok (.lload_n 1, 1) := by decide +kernel
theorem dX1_opensAtOddPlaces_9 : decode cX1_opensAtOddPlaces 9 = .ok (.land, 1) := by decide +kernel
theorem dX1_opensAtOddPlaces_10 : decode cX1_opensAtOddPlaces 10 = .ok (.invokestatic 38, 3) := by decide +kernel
theorem dX1_opensAtOddPlaces_13 : decode cX1_opensAtOddPlaces 13 = .ok (.aload_n 0, 1) := by decide +kernel
theorem dX1_opensAtOddPlaces_14 : decode cX1_opensAtOddPlaces 14 = .ok (.getfield 29, 3) := by decide +kernel
theorem dX1_opensAtOddPlaces_17 : decode cX1_opensAtOddPlaces 17 = .ok (.lload_n 1, 1) := by decide +kernel
theorem dX1_opensAtOddPlaces_18 : decode cX1_opensAtOddPlaces 18 = .ok (.land, 1) := by decide +kernel
theorem dX1_opensAtOddPlaces_19 : decode cX1_opensAtOddPlaces 19 = .ok (.invokestatic 38, 3) := by decide +kernel
theorem dX1_opensAtOddPlaces_22 : decode cX1_opensAtOddPlaces 22 = .ok (.iadd, 1) := by decide +kernel
theorem dX1_opensAtOddPlaces_23 : decode cX1_opensAtOddPlaces 23 = .ok (.ireturn, 1) := by decide +kernel
set_option maxRecDepth 20000 in
theorem ggX1_signsLow_X0_firstOf : GoodIn wsX1_signsLow wsX0_firstOf := goodIn_r _ [8, 9] rfl (by decide +kernel)
set_option maxRecDepth 20000 in
theorem gX1_signsLow_X0_firstOf : GoodIn wsX1_signsLow (va_wsS RX1 32 yX0_firstOf wsX0_firstOf) := goodIn_app (goodIn_of _ (by decide +kernel)) ggX1_signsLow_X0_firstOf
set_option maxRecDepth 20000 in
theorem ggX1_signsLow_X0_downLow : GoodIn wsX1_signsLow wsX0_downLow := goodIn_r _ [12] rfl (by decide +kernel)
set_option maxRecDepth 20000 in
theorem gX1_signsLow_X0_downLow : GoodIn wsX1_signsLow (va_wsS RX1 52 yX0_downLow wsX0_downLow) := goodIn_app (goodIn_of _ (by decide +kernel)) ggX1_signsLow_X0_downLow
theorem dX1_signsLow_0 : decode cX1_signsLow 0 = .ok (.iload_n 1, 1) := by decide +kernel
theorem dX1_signsLow_1 : decode cX1_signsLow 1 = .ok (.ifCond .ne 8, 3) := by decide +kernel
theorem dX1_signsLow_4 : decode cX1_signsLow 4 = .ok (.aload_n 0, 1) := by decide +kernel
theorem dX1_signsLow_5 : decode cX1_signsLow 5 = .ok (.getfield 25, 3) := by decide +kernel
theorem dX1_signsLow_8 : decode cX1_signsLow 8 = .ok (.lreturn, 1) := by decide +kernel
theorem dX1_signsLow_9 : decode cX1_signsLow 9 = .ok (.iload_n 1, 1) := by decide +kernel
theorem dX1_signsLow_10 : decode cX1_signsLow 10 = .ok (.iconst 1, 1) := by decide +kernel
theorem dX1_signsLow_11 : decode cX1_signsLow 11 = .ok (.if_icmp .ne 22, 3) := by decide +kernel
theorem dX1_signsLow_14 : decode cX1_signsLow 14 = .ok (.aload_n 0, 1) := by decide +kernel
theorem dX1_signsLow_15 : decode cX1_signsLow 15 = .ok (.getfield 25, 3) := by decide +kernel
theorem dX1_signsLow_18 : decode cX1_signsLow 18 = .ok (.ldc2_w 50, 3) := by decide +kernel
theorem dX1_signsLow_21 : decode cX1_signsLow 21 = .ok (.lxor, 1) := by decide +kernel
theorem dX1_signsLow_22 : decode cX1_signsLow 22 = .ok (.aload_n 0, 1) := by decide +kernel
theorem dX1_signsLow_23 : decode cX1_signsLow 23 = .ok (.getfield 21, 3) := by decide +kernel
theorem dX1_signsLow_26 : decode cX1_signsLow 26 = .ok (.invokestatic 32, 3) := by decide +kernel
theorem dX1_signsLow_29 : decode cX1_signsLow 29 = .ok (.land, 1) := by decide +kernel
theorem dX1_signsLow_30 : decode cX1_signsLow 30 = .ok (.goto 24, 3) := by decide +kernel
theorem dX1_signsLow_33 : decode cX1_signsLow 33 = .ok (.aload_n 0, 1) := by decide +kernel
theorem dX1_signsLow_34 : decode cX1_signsLow 34 = .ok (.getfield 25, 3) := by decide +kernel
theorem dX1_signsLow_37 : decode cX1_signsLow 37 = .ok (.aload_n 0, 1) := by decide +kernel
theorem dX1_signsLow_38 : decode cX1_signsLow 38 = .ok (.getfield 25, 3) := by decide +kernel
theorem dX1_signsLow_41 : decode cX1_signsLow 41 = .ok (.aload_n 0, 1) := by decide +kernel
theorem dX1_signsLow_42 : decode cX1_signsLow 42 = .ok (.getfield 29, 3) := by decide +kernel
theorem dX1_signsLow_45 : decode cX1_signsLow 45 = .ok (.iconst 1, 1) := by decide +kernel
theorem dX1_signsLow_46 : decode cX1_signsLow 46 = .ok (.invokestatic 52, 3) := by decide +kernel
theorem dX1_signsLow_49 : decode cX1_signsLow 49 = .ok (.ldc2_w 50, 3) := by decide +kernel
theorem dX1_signsLow_52 : decode cX1_signsLow 52 = .ok (.lxor, 1) := by decide +kernel
theorem dX1_signsLow_53 : decode cX1_signsLow 53 = .ok (.land, 1) := by decide +kernel
theorem dX1_signsLow_54 : decode cX1_signsLow 54 = .ok (.lreturn, 1) := by decide +kernel
set_option maxRecDepth 20000 in
theorem ggX1_signsHigh_X0_firstOf : GoodIn wsX1_signsHigh wsX0_firstOf := goodIn_r _ [7, 8] rfl (by decide +kernel)
set_option maxRecDepth 20000 in
theorem gX1_signsHigh_X0_firstOf : GoodIn wsX1_signsHigh (va_wsS RX1 32 yX0_firstOf wsX0_firstOf) := goodIn_app (goodIn_of _ (by decide +kernel)) ggX1_signsHigh_X0_firstOf
set_option maxRecDepth 20000 in
theorem ggX1_signsHigh_X0_downHigh : GoodIn wsX1_signsHigh wsX0_downHigh := goodIn_r _ [11] rfl (by decide +kernel)
set_option maxRecDepth 20000 in
theorem gX1_signsHigh_X0_downHigh : GoodIn wsX1_signsHigh (va_wsS RX1 56 yX0_downHigh wsX0_downHigh) := goodIn_app (goodIn_of _ (by decide +kernel)) ggX1_signsHigh_X0_downHigh
theorem dX1_signsHigh_0 : decode cX1_signsHigh 0 = .ok (.iload_n 1, 1) := by decide +kernel
theorem dX1_signsHigh_1 : decode cX1_signsHigh 1 = .ok (.ifCond .ne 8, 3) := by decide +kernel
theorem dX1_signsHigh_4 : decode cX1_signsHigh 4 = .ok (.aload_n 0, 1) := by decide +kernel
theorem dX1_signsHigh_5 : decode cX1_signsHigh 5 = .ok (.getfield 29, 3) := by decide +kernel
theorem dX1_signsHigh_8 : decode cX1_signsHigh 8 = .ok (.lreturn, 1) := by decide +kernel
theorem dX1_signsHigh_9 : decode cX1_signsHigh 9 = .ok (.iload_n 1, 1) := by decide +kernel
theorem dX1_signsHigh_10 : decode cX1_signsHigh 10 = .ok (.iconst 1, 1) := by decide +kernel
theorem dX1_signsHigh_11 : decode cX1_signsHigh 11 = .ok (.if_icmp .ne 25, 3) := by decide +kernel
theorem dX1_signsHigh_14 : decode cX1_signsHigh 14 = .ok (.aload_n 0, 1) := by decide +kernel
theorem dX1_signsHigh_15 : decode cX1_signsHigh 15 = .ok (.getfield 29, 3) := by decide +kernel
theorem dX1_signsHigh_18 : decode cX1_signsHigh 18 = .ok (.ldc2_w 50, 3) := by decide +kernel
theorem dX1_signsHigh_21 : decode cX1_signsHigh 21 = .ok (.lxor, 1) := by decide +kernel
theorem dX1_signsHigh_22 : decode cX1_signsHigh 22 = .ok (.aload_n 0, 1) := by decide +kernel
theorem dX1_signsHigh_23 : decode cX1_signsHigh 23 = .ok (.getfield 21, 3) := by decide +kernel
theorem dX1_signsHigh_26 : decode cX1_signsHigh 26 = .ok (.bipush 64, 2) := by decide +kernel
theorem dX1_signsHigh_28 : decode cX1_signsHigh 28 = .ok (.isub, 1) := by decide +kernel
theorem dX1_signsHigh_29 : decode cX1_signsHigh 29 = .ok (.invokestatic 32, 3) := by decide +kernel
theorem dX1_signsHigh_32 : decode cX1_signsHigh 32 = .ok (.land, 1) := by decide +kernel
theorem dX1_signsHigh_33 : decode cX1_signsHigh 33 = .ok (.goto 20, 3) := by decide +kernel
theorem dX1_signsHigh_36 : decode cX1_signsHigh 36 = .ok (.aload_n 0, 1) := by decide +kernel
theorem dX1_signsHigh_37 : decode cX1_signsHigh 37 = .ok (.getfield 29, 3) := by decide +kernel
theorem dX1_signsHigh_40 : decode cX1_signsHigh 40 = .ok (.aload_n 0, 1) := by decide +kernel
theorem dX1_signsHigh_41 : decode cX1_signsHigh 41 = .ok (.getfield 29, 3) := by decide +kernel
theorem dX1_signsHigh_44 : decode cX1_signsHigh 44 = .ok (.iconst 1, 1) := by decide +kernel
theorem dX1_signsHigh_45 : decode cX1_signsHigh 45 = .ok (.invokestatic 56, 3) := by decide +kernel
theorem dX1_signsHigh_48 : decode cX1_signsHigh 48 = .ok (.ldc2_w 50, 3) := by decide +kernel
theorem dX1_signsHigh_51 : decode cX1_signsHigh 51 = .ok (.lxor, 1) := by decide +kernel
theorem dX1_signsHigh_52 : decode cX1_signsHigh 52 = .ok (.land, 1) := by decide +kernel
theorem dX1_signsHigh_53 : decode cX1_signsHigh 53 = .ok (.lreturn, 1) := by decide +kernel
set_option maxRecDepth 20000 in
theorem ggX1_signsAhead_X1_signsLow : GoodIn wsX1_signsAhead wsX1_signsLow := goodIn_r _ [5, 6, 7, 8, 9, 10, 11, 12, 13, 14, 15, 16, 17, 32, 33, 34, 35, 36, 37] rfl (by decide +kernel)
set_option maxRecDepth 20000 in
theorem gX1_signsAhead_X1_signsLow : GoodIn wsX1_signsAhead (wsV RX1 60 RX1 yX1_signsLow wsX1_signsLow) := goodIn_app (goodIn_of _ (by decide +kernel)) ggX1_signsAhead_X1_signsLow
set_option maxRecDepth 20000 in
theorem ggX1_signsAhead_X0_firstOf : GoodIn wsX1_signsAhead wsX0_firstOf := goodIn_r _ [13, 14] rfl (by decide +kernel)
set_option maxRecDepth 20000 in
theorem gX1_signsAhead_X0_firstOf : GoodIn wsX1_signsAhead (va_wsS RX1 32 yX0_firstOf wsX0_firstOf) := goodIn_app (goodIn_of _ (by decide +kernel)) ggX1_signsAhead_X0_firstOf
set_option maxRecDepth 20000 in
theorem ggX1_signsAhead_J13_bitCount_95d88 : GoodIn wsX1_signsAhead wsJ13_bitCount_95d88 := goodIn_r _ [21, 22, 23, 24] rfl (by decide +kernel)
set_option maxRecDepth 20000 in
theorem gX1_signsAhead_J13_bitCount_95d88 : GoodIn wsX1_signsAhead (va_wsS RX1 38 yJ13_bitCount_95d88 wsJ13_bitCount_95d88) := goodIn_app (goodIn_of _ (by decide +kernel)) ggX1_signsAhead_J13_bitCount_95d88
set_option maxRecDepth 20000 in
theorem ggX1_signsAhead_X1_signsHigh : GoodIn wsX1_signsAhead wsX1_signsHigh := goodIn_r _ [28, 9, 7, 8, 10, 11, 12, 13, 14, 29, 30, 31, 32, 33, 34, 35, 36, 37] rfl (by decide +kernel)
set_option maxRecDepth 20000 in
theorem gX1_signsAhead_X1_signsHigh : GoodIn wsX1_signsAhead (wsV RX1 63 RX1 yX1_signsHigh wsX1_signsHigh) := goodIn_app (goodIn_of _ (by decide +kernel)) ggX1_signsAhead_X1_signsHigh
theorem dX1_signsAhead_0 : decode cX1_signsAhead 0 = .ok (.aload_n 0, 1) := by decide +kernel
theorem dX1_signsAhead_1 : decode cX1_signsAhead 1 = .ok (.iload_n 2, 1) := by decide +kernel
theorem dX1_signsAhead_2 : decode cX1_signsAhead 2 = .ok (.invokevirtual 60, 3) := by decide +kernel
theorem dX1_signsAhead_5 : decode cX1_signsAhead 5 = .ok (.iload_n 1, 1) := by decide +kernel
theorem dX1_signsAhead_6 : decode cX1_signsAhead 6 = .ok (.invokestatic 32, 3) := by decide +kernel
theorem dX1_signsAhead_9 : decode cX1_signsAhead 9 = .ok (.land, 1) := by decide +kernel
theorem dX1_signsAhead_10 : decode cX1_signsAhead 10 = .ok (.invokestatic 38, 3) := by decide +kernel
theorem dX1_signsAhead_13 : decode cX1_signsAhead 13 = .ok (.aload_n 0, 1) := by decide +kernel
theorem dX1_signsAhead_14 : decode cX1_signsAhead 14 = .ok (.iload_n 2, 1) := by decide +kernel
theorem dX1_signsAhead_15 : decode cX1_signsAhead 15 = .ok (.invokevirtual 63, 3) := by decide +kernel
theorem dX1_signsAhead_18 : decode cX1_signsAhead 18 = .ok (.iload_n 1, 1) := by decide +kernel
theorem dX1_signsAhead_19 : decode cX1_signsAhead 19 = .ok (.bipush 64, 2) := by decide +kernel
theorem dX1_signsAhead_21 : decode cX1_signsAhead 21 = .ok (.isub, 1) := by decide +kernel
theorem dX1_signsAhead_22 : decode cX1_signsAhead 22 = .ok (.invokestatic 32, 3) := by decide +kernel
theorem dX1_signsAhead_25 : decode cX1_signsAhead 25 = .ok (.land, 1) := by decide +kernel
theorem dX1_signsAhead_26 : decode cX1_signsAhead 26 = .ok (.invokestatic 38, 3) := by decide +kernel
theorem dX1_signsAhead_29 : decode cX1_signsAhead 29 = .ok (.iadd, 1) := by decide +kernel
theorem dX1_signsAhead_30 : decode cX1_signsAhead 30 = .ok (.ireturn, 1) := by decide +kernel
set_option maxRecDepth 20000 in
theorem ggX1_placeOfSign_X1_signsLow : GoodIn wsX1_placeOfSign wsX1_signsLow := goodIn_r _ [5, 6, 7, 8, 9, 10, 11, 12, 13, 14, 15, 16, 17, 36, 37, 38, 39, 40, 41] rfl (by decide +kernel)
set_option maxRecDepth 20000 in
theorem gX1_placeOfSign_X1_signsLow : GoodIn wsX1_placeOfSign (wsV RX1 60 RX1 yX1_signsLow wsX1_signsLow) := goodIn_app (goodIn_of _ (by decide +kernel)) ggX1_placeOfSign_X1_signsLow
set_option maxRecDepth 20000 in
theorem ggX1_placeOfSign_J13_bitCount_95d88 : GoodIn wsX1_placeOfSign wsJ13_bitCount_95d88 := goodIn_r _ [21, 22, 23, 24] rfl (by decide +kernel)
set_option maxRecDepth 20000 in
theorem gX1_placeOfSign_J13_bitCount_95d88 : GoodIn wsX1_placeOfSign (va_wsS RX1 38 yJ13_bitCount_95d88 wsJ13_bitCount_95d88) := goodIn_app (goodIn_of _ (by decide +kernel)) ggX1_placeOfSign_J13_bitCount_95d88
set_option maxRecDepth 20000 in
theorem ggX1_placeOfSign_X0_indexOfOne : GoodIn wsX1_placeOfSign wsX0_indexOfOne := goodIn_r _ [27, 28, 19, 20, 21, 22, 23, 24] rfl (by decide +kernel)
set_option maxRecDepth 20000 in
theorem gX1_placeOfSign_X0_indexOfOne : GoodIn wsX1_placeOfSign (va_wsS RX1 66 yX0_indexOfOne wsX0_indexOfOne) := goodIn_app (goodIn_of _ (by decide +kernel)) ggX1_placeOfSign_X0_indexOfOne
set_option maxRecDepth 20000 in
theorem ggX1_placeOfSign_X1_signsHigh : GoodIn wsX1_placeOfSign wsX1_signsHigh := goodIn_r _ [32, 9, 7, 8, 10, 11, 12, 13, 14, 33, 34, 35, 36, 37, 38, 39, 40, 41] rfl (by decide +kernel)
set_option maxRecDepth 20000 in
theorem gX1_placeOfSign_X1_signsHigh : GoodIn wsX1_placeOfSign (wsV RX1 63 RX1 yX1_signsHigh wsX1_signsHigh) := goodIn_app (goodIn_of _ (by decide +kernel)) ggX1_placeOfSign_X1_signsHigh
theorem dX1_placeOfSign_0 : decode cX1_placeOfSign 0 = .ok (.aload_n 0, 1) := by decide +kernel
theorem dX1_placeOfSign_1 : decode cX1_placeOfSign 1 = .ok (.iload_n 2, 1) := by decide +kernel
theorem dX1_placeOfSign_2 : decode cX1_placeOfSign 2 = .ok (.invokevirtual 60, 3) := by decide +kernel
theorem dX1_placeOfSign_5 : decode cX1_placeOfSign 5 = .ok (.lstore_n 3, 1) := by decide +kernel
theorem dX1_placeOfSign_6 : decode cX1_placeOfSign 6 = .ok (.lload_n 3, 1) := by decide +kernel
theorem dX1_placeOfSign_7 : decode cX1_placeOfSign 7 = .ok (.invokestatic 38, 3) := by decide +kernel
theorem dX1_placeOfSign_10 : decode cX1_placeOfSign 10 = .ok (.istore 5, 2) := by decide +kernel
theorem dX1_placeOfSign_12 : decode cX1_placeOfSign 12 = .ok (.iload_n 1, 1) := by decide +kernel
theorem dX1_placeOfSign_13 : decode cX1_placeOfSign 13 = .ok (.iload 5, 2) := by decide +kernel
theorem dX1_placeOfSign_15 : decode cX1_placeOfSign 15 = .ok (.if_icmp .ge 9, 3) := by decide +kernel
theorem dX1_placeOfSign_18 : decode cX1_placeOfSign 18 = .ok (.lload_n 3, 1) := by decide +kernel
theorem dX1_placeOfSign_19 : decode cX1_placeOfSign 19 = .ok (.iload_n 1, 1) := by decide +kernel
theorem dX1_placeOfSign_20 : decode cX1_placeOfSign 20 = .ok (.invokestatic 66, 3) := by decide +kernel
theorem dX1_placeOfSign_23 : decode cX1_placeOfSign 23 = .ok (.ireturn, 1) := by decide +kernel
theorem dX1_placeOfSign_24 : decode cX1_placeOfSign 24 = .ok (.aload_n 0, 1) := by decide +kernel
theorem dX1_placeOfSign_25 : decode cX1_placeOfSign 25 = .ok (.iload_n 2, 1) := by decide +kernel
theorem dX1_placeOfSign_26 : decode cX1_placeOfSign 26 = .ok (.invokevirtual 63, 3) := by decide +kernel
theorem dX1_placeOfSign_29 : decode cX1_placeOfSign 29 = .ok (.lstore 6, 2) := by decide +kernel
theorem dX1_placeOfSign_31 : decode cX1_placeOfSign 31 = .ok (.iload_n 1, 1) := by decide +kernel
theorem dX1_placeOfSign_32 : decode cX1_placeOfSign 32 = .ok (.iload 5, 2) := by decide +kernel
theorem dX1_placeOfSign_34 : decode cX1_placeOfSign 34 = .ok (.isub, 1) := by decide +kernel
theorem dX1_placeOfSign_35 : decode cX1_placeOfSign 35 = .ok (.istore 8, 2) := by decide +kernel
theorem dX1_placeOfSign_37 : decode cX1_placeOfSign 37 = .ok (.iload 8, 2) := by decide +kernel
theorem dX1_placeOfSign_39 : decode cX1_placeOfSign 39 = .ok (.lload 6, 2) := by decide +kernel
theorem dX1_placeOfSign_41 : decode cX1_placeOfSign 41 = .ok (.invokestatic 38, 3) := by decide +kernel
theorem dX1_placeOfSign_44 : decode cX1_placeOfSign 44 = .ok (.if_icmp .ge 16, 3) := by decide +kernel
theorem dX1_placeOfSign_47 : decode cX1_placeOfSign 47 = .ok (.bipush 64, 2) := by decide +kernel
theorem dX1_placeOfSign_49 : decode cX1_placeOfSign 49 = .ok (.lload 6, 2) := by decide +kernel
theorem dX1_placeOfSign_51 : decode cX1_placeOfSign 51 = .ok (.iload 8, 2) := by decide +kernel
theorem dX1_placeOfSign_53 : decode cX1_placeOfSign 53 = .ok (.invokestatic 66, 3) := by decide +kernel
theorem dX1_placeOfSign_56 : decode cX1_placeOfSign 56 = .ok (.iadd, 1) := by decide +kernel
theorem dX1_placeOfSign_57 : decode cX1_placeOfSign 57 = .ok (.goto 5, 3) := by decide +kernel
theorem dX1_placeOfSign_60 : decode cX1_placeOfSign 60 = .ok (.bipush (-4), 2) := by decide +kernel
theorem dX1_placeOfSign_62 : decode cX1_placeOfSign 62 = .ok (.ireturn, 1) := by decide +kernel
theorem dX1_reaches_0 : decode cX1_reaches 0 = .ok (.aload_n 0, 1) := by decide +kernel
theorem dX1_reaches_1 : decode cX1_reaches 1 = .ok (.getfield 15, 3) := by decide +kernel
theorem dX1_reaches_4 : decode cX1_reaches 4 = .ok (.iload_n 1, 1) := by decide +kernel
theorem dX1_reaches_5 : decode cX1_reaches 5 = .ok (.iaload, 1) := by decide +kernel
theorem dX1_reaches_6 : decode cX1_reaches 6 = .ok (.iload_n 2, 1) := by decide +kernel
theorem dX1_reaches_7 : decode cX1_reaches 7 = .ok (.if_icmp .gt 17, 3) := by decide +kernel
theorem dX1_reaches_10 : decode cX1_reaches 10 = .ok (.iload_n 2, 1) := by decide +kernel
theorem dX1_reaches_11 : decode cX1_reaches 11 = .ok (.aload_n 0, 1) := by decide +kernel
theorem dX1_reaches_12 : decode cX1_reaches 12 = .ok (.getfield 18, 3) := by decide +kernel
theorem dX1_reaches_15 : decode cX1_reaches 15 = .ok (.iload_n 1, 1) := by decide +kernel
theorem dX1_reaches_16 : decode cX1_reaches 16 = .ok (.iaload, 1) := by decide +kernel
theorem dX1_reaches_17 : decode cX1_reaches 17 = .ok (.if_icmp .gt 7, 3) := by decide +kernel
theorem dX1_reaches_20 : decode cX1_reaches 20 = .ok (.iconst 1, 1) := by decide +kernel
theorem dX1_reaches_21 : decode cX1_reaches 21 = .ok (.goto 4, 3) := by decide +kernel
theorem dX1_reaches_24 : decode cX1_reaches 24 = .ok (.iconst 0, 1) := by decide +kernel
theorem dX1_reaches_25 : decode cX1_reaches 25 = .ok (.ireturn, 1) := by decide +kernel
set_option maxRecDepth 20000 in
theorem ggX1_searchOn_X1_excessAt : GoodIn wsX1_searchOn wsX1_excessAt := goodIn_r _ [7, 8, 9, 10, 11, 12, 13, 14, 15, 16, 17, 18, 19, 20, 21, 32, 33, 34, 35, 36, 37] rfl (by decide +kernel)
set_option maxRecDepth 20000 in
theorem gX1_searchOn_X1_excessAt : GoodIn wsX1_searchOn (wsV RX1 44 RX1 yX1_excessAt wsX1_excessAt) := goodIn_app (goodIn_of _ (by decide +kernel)) ggX1_searchOn_X1_excessAt
set_option maxRecDepth 20000 in
theorem ggX1_searchOn_X1_reaches : GoodIn wsX1_searchOn wsX1_reaches := goodIn_r _ [25, 26, 27, 32, 33, 34, 35, 36, 37] rfl (by decide +kernel)
set_option maxRecDepth 20000 in
theorem gX1_searchOn_X1_reaches : GoodIn wsX1_searchOn (wsV RX1 70 RX1 yX1_reaches wsX1_reaches) := goodIn_app (goodIn_of _ (by decide +kernel)) ggX1_searchOn_X1_reaches
set_option maxRecDepth 20000 in
theorem ggX1_searchOn_X1_stepAt : GoodIn wsX1_searchOn wsX1_stepAt := goodIn_r _ [31, 8, 9, 32, 33, 34, 35, 36, 37] rfl (by decide +kernel)
set_option maxRecDepth 20000 in
theorem gX1_searchOn_X1_stepAt : GoodIn wsX1_searchOn (wsV RX1 74 RX1 yX1_stepAt wsX1_stepAt) := goodIn_app (goodIn_of _ (by decide +kernel)) ggX1_searchOn_X1_stepAt
theorem dX1_searchOn_0 : decode cX1_searchOn 0 = .ok (.aload_n 0, 1) := by decide +kernel
theorem dX1_searchOn_1 : decode cX1_searchOn 1 = .ok (.iload_n 1, 1) := by decide +kernel
theorem dX1_searchOn_2 : decode cX1_searchOn 2 = .ok (.invokevirtual 44, 3) := by decide +kernel
theorem dX1_searchOn_5 : decode cX1_searchOn 5 = .ok (.istore_n 3, 1) := by decide +kernel
theorem dX1_searchOn_6 : decode cX1_searchOn 6 = .ok (.iload_n 1, 1) := by decide +kernel
theorem dX1_searchOn_7 : decode cX1_searchOn 7 = .ok (.istore 4, 2) := by decide +kernel
theorem dX1_searchOn_9 : decode cX1_searchOn 9 = .ok (.iload 4, 2) := by decide +kernel
theorem dX1_searchOn_11 : decode cX1_searchOn 11 = .ok (.aload_n 0, 1) := by decide +kernel
theorem dX1_searchOn_12 : decode cX1_searchOn 12 = .ok (.getfield 21, 3) := by decide +kernel
theorem dX1_searchOn_15 : decode cX1_searchOn 15 = .ok (.if_icmp .ge 65, 3) := by decide +kernel
theorem dX1_searchOn_18 : decode cX1_searchOn 18 = .ok (.iload 4, 2) := by decide +kernel
theorem dX1_searchOn_20 : decode cX1_searchOn 20 = .ok (.bipush 16, 2) := by decide +kernel
theorem dX1_searchOn_22 : decode cX1_searchOn 22 = .ok (.irem, 1) := by decide +kernel
theorem dX1_searchOn_23 : decode cX1_searchOn 23 = .ok (.ifCond .ne 37, 3) := by decide +kernel
theorem dX1_searchOn_26 : decode cX1_searchOn 26 = .ok (.aload_n 0, 1) := by decide +kernel
theorem dX1_searchOn_27 : decode cX1_searchOn 27 = .ok (.iload 4, 2) := by decide +kernel
theorem dX1_searchOn_29 : decode cX1_searchOn 29 = .ok (.bipush 16, 2) := by decide +kernel
theorem dX1_searchOn_31 : decode cX1_searchOn 31 = .ok (.idiv, 1) := by decide +kernel
theorem dX1_searchOn_32 : decode cX1_searchOn 32 = .ok (.iload_n 2, 1) := by decide +kernel
theorem dX1_searchOn_33 : decode cX1_searchOn 33 = .ok (.iload_n 3, 1) := by decide +kernel
theorem dX1_searchOn_34 : decode cX1_searchOn 34 = .ok (.isub, 1) := by decide +kernel
theorem dX1_searchOn_35 : decode cX1_searchOn 35 = .ok (.invokevirtual 70, 3) := by decide +kernel
theorem dX1_searchOn_38 : decode cX1_searchOn 38 = .ok (.ifCond .ne 22, 3) := by decide +kernel
theorem dX1_searchOn_41 : decode cX1_searchOn 41 = .ok (.iload_n 3, 1) := by decide +kernel
theorem dX1_searchOn_42 : decode cX1_searchOn 42 = .ok (.aload_n 0, 1) := by decide +kernel
theorem dX1_searchOn_43 : decode cX1_searchOn 43 = .ok (.getfield 9, 3) := by decide +kernel
theorem dX1_searchOn_46 : decode cX1_searchOn 46 = .ok (.iload 4, 2) := by decide +kernel
theorem dX1_searchOn_48 : decode cX1_searchOn 48 = .ok (.bipush 16, 2) := by decide +kernel
theorem dX1_searchOn_50 : decode cX1_searchOn 50 = .ok (.idiv, 1) := by decide +kernel
theorem dX1_searchOn_51 : decode cX1_searchOn 51 = .ok (.iaload, 1) := by decide +kernel
theorem dX1_searchOn_52 : decode cX1_searchOn 52 = .ok (.iadd, 1) := by decide +kernel
theorem dX1_searchOn_53 : decode cX1_searchOn 53 = .ok (.istore_n 3, 1) := by decide +kernel
theorem dX1_searchOn_54 : decode cX1_searchOn 54 = .ok (.iinc 4 16, 3) := by decide +kernel
theorem dX1_searchOn_57 : decode cX1_searchOn 57 = .ok (.goto (-48), 3) := by decide +kernel
theorem dX1_searchOn_60 : decode cX1_searchOn 60 = .ok (.iload_n 3, 1) := by decide +kernel
theorem dX1_searchOn_61 : decode cX1_searchOn 61 = .ok (.aload_n 0, 1) := by decide +kernel
theorem dX1_searchOn_62 : decode cX1_searchOn 62 = .ok (.iload 4, 2) := by decide +kernel
theorem dX1_searchOn_64 : decode cX1_searchOn 64 = .ok (.invokevirtual 74, 3) := by decide +kernel
theorem dX1_searchOn_67 : decode cX1_searchOn 67 = .ok (.iadd, 1) := by decide +kernel
theorem dX1_searchOn_68 : decode cX1_searchOn 68 = .ok (.istore_n 3, 1) := by decide +kernel
theorem dX1_searchOn_69 : decode cX1_searchOn 69 = .ok (.iinc 4 1, 3) := by decide +kernel
theorem dX1_searchOn_72 : decode cX1_searchOn 72 = .ok (.iload_n 3, 1) := by decide +kernel
theorem dX1_searchOn_73 : decode cX1_searchOn 73 = .ok (.iload_n 2, 1) := by decide +kernel
theorem dX1_searchOn_74 : decode cX1_searchOn 74 = .ok (.if_icmp .ne (-65), 3) := by decide +kernel
theorem dX1_searchOn_77 : decode cX1_searchOn 77 = .ok (.iload 4, 2) := by decide +kernel
theorem dX1_searchOn_79 : decode cX1_searchOn 79 = .ok (.ireturn, 1) := by decide +kernel
theorem dX1_searchOn_80 : decode cX1_searchOn 80 = .ok (.bipush (-4), 2) := by decide +kernel
theorem dX1_searchOn_82 : decode cX1_searchOn 82 = .ok (.ireturn, 1) := by decide +kernel
set_option maxRecDepth 20000 in
theorem ggX1_searchBack_X1_excessAt : GoodIn wsX1_searchBack wsX1_excessAt := goodIn_r _ [6, 7, 8, 9, 10, 11, 12, 13, 14, 15, 16, 17, 18, 19, 20, 31, 32, 33, 34, 35, 36] rfl (by decide +kernel)
set_option maxRecDepth 20000 in
theorem gX1_searchBack_X1_excessAt : GoodIn wsX1_searchBack (wsV RX1 44 RX1 yX1_excessAt wsX1_excessAt) := goodIn_app (goodIn_of _ (by decide +kernel)) ggX1_searchBack_X1_excessAt
set_option maxRecDepth 20000 in
theorem ggX1_searchBack_X1_stepAt : GoodIn wsX1_searchBack wsX1_stepAt := goodIn_r _ [24, 7, 8, 31, 32, 33, 34, 35, 36] rfl (by decide +kernel)
set_option maxRecDepth 20000 in
theorem gX1_searchBack_X1_stepAt : GoodIn wsX1_searchBack (wsV RX1 74 RX1 yX1_stepAt wsX1_stepAt) := goodIn_app (goodIn_of _ (by decide +kernel)) ggX1_searchBack_X1_stepAt
set_option maxRecDepth 20000 in
theorem ggX1_searchBack_X1_reaches : GoodIn wsX1_searchBack wsX1_reaches := goodIn_r _ [28, 29, 30, 31, 32, 33, 34, 35, 36] rfl (by decide +kernel)
set_option maxRecDepth 20000 in
theorem gX1_searchBack_X1_reaches : GoodIn wsX1_searchBack (wsV RX1 70 RX1 yX1_reaches wsX1_reaches) := goodIn_app (goodIn_of _ (by decide +kernel)) ggX1_searchBack_X1_reaches
theorem dX1_searchBack_0 : decode cX1_searchBack 0 = .ok (.aload_n 0, 1) := by decide +kernel
theorem dX1_searchBack_1 : decode cX1_searchBack 1 = .ok (.iload_n 1, 1) := by decide +kernel
theorem dX1_searchBack_2 : decode cX1_searchBack 2 = .ok (.invokevirtual 44, 3) := by decide +kernel
theorem dX1_searchBack_5 : decode cX1_searchBack 5 = .ok (.istore_n 3, 1) := by decide +kernel
theorem dX1_searchBack_6 : decode cX1_searchBack 6 = .ok (.iload_n 1, 1) := by decide +kernel
theorem dX1_searchBack_7 : decode cX1_searchBack 7 = .ok (.istore 4, 2) := by decide +kernel
theorem dX1_searchBack_9 : decode cX1_searchBack 9 = .ok (.iload 4, 2) := by decide +kernel
theorem dX1_searchBack_11 : decode cX1_searchBack 11 = .ok (.ifCond .le 87, 3) := by decide +kernel
theorem dX1_searchBack_14 : decode cX1_searchBack 14 = .ok (.iinc 4 (-1), 3) := by decide +kernel
theorem dX1_searchBack_17 : decode cX1_searchBack 17 = .ok (.iload_n 3, 1) := by decide +kernel
theorem dX1_searchBack_18 : decode cX1_searchBack 18 = .ok (.aload_n 0, 1) := by decide +kernel
theorem dX1_searchBack_19 : decode cX1_searchBack 19 = .ok (.iload 4, 2) := by decide +kernel
theorem dX1_searchBack_21 : decode cX1_searchBack 21 = .ok (.invokevirtual 74, 3) := by decide +kernel
theorem dX1_searchBack_24 : decode cX1_searchBack 24 = .ok (.isub, 1) := by decide +kernel
theorem dX1_searchBack_25 : decode cX1_searchBack 25 = .ok (.istore_n 3, 1) := by decide +kernel
theorem dX1_searchBack_26 : decode cX1_searchBack 26 = .ok (.iload 4, 2) := by decide +kernel
theorem dX1_searchBack_28 : decode cX1_searchBack 28 = .ok (.bipush 16, 2) := by decide +kernel
theorem dX1_searchBack_30 : decode cX1_searchBack 30 = .ok (.if_icmp .lt 60, 3) := by decide +kernel
theorem dX1_searchBack_33 : decode cX1_searchBack 33 = .ok (.iload 4, 2) := by decide +kernel
theorem dX1_searchBack_35 : decode cX1_searchBack 35 = .ok (.bipush 16, 2) := by decide +kernel
theorem dX1_searchBack_37 : decode cX1_searchBack 37 = .ok (.irem, 1) := by decide +kernel
theorem dX1_searchBack_38 : decode cX1_searchBack 38 = .ok (.ifCond .ne 52, 3) := by decide +kernel
theorem dX1_searchBack_41 : decode cX1_searchBack 41 = .ok (.aload_n 0, 1) := by decide +kernel
theorem dX1_searchBack_42 : decode cX1_searchBack 42 = .ok (.iload 4, 2) := by decide +kernel
theorem dX1_searchBack_44 : decode cX1_searchBack 44 = .ok (.bipush 16, 2) := by decide +kernel
theorem dX1_searchBack_46 : decode cX1_searchBack 46 = .ok (.idiv, 1) := by decide +kernel
theorem dX1_searchBack_47 : decode cX1_searchBack 47 = .ok (.iconst 1, 1) := by decide +kernel
theorem dX1_searchBack_48 : decode cX1_searchBack 48 = .ok (.isub, 1) := by decide +kernel
theorem dX1_searchBack_49 : decode cX1_searchBack 49 = .ok (.iload_n 2, 1) := by decide +kernel
theorem dX1_searchBack_50 : decode cX1_searchBack 50 = .ok (.iload_n 3, 1) := by decide +kernel
theorem dX1_searchBack_51 : decode cX1_searchBack 51 = .ok (.isub, 1) := by decide +kernel
theorem dX1_searchBack_52 : decode cX1_searchBack 52 = .ok (.aload_n 0, 1) := by decide +kernel
theorem dX1_searchBack_53 : decode cX1_searchBack 53 = .ok (.getfield 9, 3) := by decide +kernel
theorem dX1_searchBack_56 : decode cX1_searchBack 56 = .ok (.iload 4, 2) := by decide +kernel
theorem dX1_searchBack_58 : decode cX1_searchBack 58 = .ok (.bipush 16, 2) := by decide +kernel
theorem dX1_searchBack_60 : decode cX1_searchBack 60 = .ok (.idiv, 1) := by decide +kernel
theorem dX1_searchBack_61 : decode cX1_searchBack 61 = .ok (.iconst 1, 1) := by decide +kernel
theorem dX1_searchBack_62 : decode cX1_searchBack 62 = .ok (.isub, 1) := by decide +kernel
theorem dX1_searchBack_63 : decode cX1_searchBack 63 = .ok (.iaload, 1) := by decide +kernel
theorem dX1_searchBack_64 : decode cX1_searchBack 64 = .ok (.iadd, 1) := by decide +kernel
theorem dX1_searchBack_65 : decode cX1_searchBack 65 = .ok (.invokevirtual 70, 3) := by decide +kernel
theorem dX1_searchBack_68 : decode cX1_searchBack 68 = .ok (.ifCond .ne 22, 3) := by decide +kernel
theorem dX1_searchBack_71 : decode cX1_searchBack 71 = .ok (.iinc 4 (-16), 3) := by decide +kernel
theorem dX1_searchBack_74 : decode cX1_searchBack 74 = .ok (.iload_n 3, 1) := by decide +kernel
theorem dX1_searchBack_75 : decode cX1_searchBack 75 = .ok (.aload_n 0, 1) := by decide +kernel
theorem dX1_searchBack_76 : decode cX1_searchBack 76 = .ok (.getfield 9, 3) := by decide +kernel
theorem dX1_searchBack_79 : decode cX1_searchBack 79 = .ok (.iload 4, 2) := by decide +kernel
theorem dX1_searchBack_81 : decode cX1_searchBack 81 = .ok (.bipush 16, 2) := by decide +kernel
theorem dX1_searchBack_83 : decode cX1_searchBack 83 = .ok (.idiv, 1) := by decide +kernel
theorem dX1_searchBack_84 : decode cX1_searchBack 84 = .ok (.iaload, 1) := by decide +kernel
theorem dX1_searchBack_85 : decode cX1_searchBack 85 = .ok (.isub, 1) := by decide +kernel
theorem dX1_searchBack_86 : decode cX1_searchBack 86 = .ok (.istore_n 3, 1) := by decide +kernel
theorem dX1_searchBack_87 : decode cX1_searchBack 87 = .ok (.goto (-61), 3) := by decide +kernel
theorem dX1_searchBack_90 : decode cX1_searchBack 90 = .ok (.iload_n 3, 1) := by decide +kernel
theorem dX1_searchBack_91 : decode cX1_searchBack 91 = .ok (.iload_n 2, 1) := by decide +kernel
theorem dX1_searchBack_92 : decode cX1_searchBack 92 = .ok (.if_icmp .ne (-83), 3) := by decide +kernel
theorem dX1_searchBack_95 : decode cX1_searchBack 95 = .ok (.iload 4, 2) := by decide +kernel
theorem dX1_searchBack_97 : decode cX1_searchBack 97 = .ok (.ireturn, 1) := by decide +kernel
theorem dX1_searchBack_98 : decode cX1_searchBack 98 = .ok (.bipush (-4), 2) := by decide +kernel
theorem dX1_searchBack_100 : decode cX1_searchBack 100 = .ok (.ireturn, 1) := by decide +kernel
set_option maxRecDepth 20000 in
theorem ggX1_partnerOf_X1_bitAt : GoodIn wsX1_partnerOf wsX1_bitAt := goodIn_r _ [5, 6, 7, 44, 45, 46, 47, 48, 49] rfl (by decide +kernel)
set_option maxRecDepth 20000 in
theorem gX1_partnerOf_X1_bitAt : GoodIn wsX1_partnerOf (wsV RX1 77 RX1 yX1_bitAt wsX1_bitAt) := goodIn_app (goodIn_of _ (by decide +kernel)) ggX1_partnerOf_X1_bitAt
set_option maxRecDepth 20000 in
theorem ggX1_partnerOf_X1_excessAt : GoodIn wsX1_partnerOf wsX1_excessAt := goodIn_r _ [11, 6, 7, 12, 13, 14, 15, 16, 17, 18, 19, 20, 21, 22, 23, 44, 45, 46, 47, 48, 49] rfl (by decide +kernel)
set_option maxRecDepth 20000 in
theorem gX1_partnerOf_X1_excessAt : GoodIn wsX1_partnerOf (wsV RX1 44 RX1 yX1_excessAt wsX1_excessAt) := goodIn_app (goodIn_of _ (by decide +kernel)) ggX1_partnerOf_X1_excessAt
set_option maxRecDepth 20000 in
theorem ggX1_partnerOf_X1_searchOn : GoodIn wsX1_partnerOf wsX1_searchOn := goodIn_r _ [27, 28, 29, 8, 9, 10, 4, 11, 6, 7, 12, 13, 14, 15, 16, 17, 18, 19, 20, 21, 22, 23, 30, 31, 32, 33, 34, 35, 36, 37, 38, 39, 44, 45, 46, 47, 48, 49] rfl (by decide +kernel)
set_option maxRecDepth 20000 in
theorem gX1_partnerOf_X1_searchOn : GoodIn wsX1_partnerOf (wsV RX1 80 RX1 yX1_searchOn wsX1_searchOn) := goodIn_app (goodIn_of _ (by decide +kernel)) ggX1_partnerOf_X1_searchOn
set_option maxRecDepth 20000 in
theorem ggX1_partnerOf_X1_searchBack : GoodIn wsX1_partnerOf wsX1_searchBack := goodIn_r _ [43, 29, 8, 9, 10, 4, 11, 6, 7, 12, 13, 14, 15, 16, 17, 18, 19, 20, 21, 22, 23, 36, 37, 38, 39, 30, 31, 32, 33, 34, 35, 44, 45, 46, 47, 48, 49] rfl (by decide +kernel)
set_option maxRecDepth 20000 in
theorem gX1_partnerOf_X1_searchBack : GoodIn wsX1_partnerOf (wsV RX1 84 RX1 yX1_searchBack wsX1_searchBack) := goodIn_app (goodIn_of _ (by decide +kernel)) ggX1_partnerOf_X1_searchBack
theorem dX1_partnerOf_0 : decode cX1_partnerOf 0 = .ok (.aload_n 0, 1) := by decide +kernel
theorem dX1_partnerOf_1 : decode cX1_partnerOf 1 = .ok (.iload_n 1, 1) := by decide +kernel
theorem dX1_partnerOf_2 : decode cX1_partnerOf 2 = .ok (.invokevirtual 77, 3) := by decide +kernel
theorem dX1_partnerOf_5 : decode cX1_partnerOf 5 = .ok (.iconst 1, 1) := by decide +kernel
theorem dX1_partnerOf_6 : decode cX1_partnerOf 6 = .ok (.if_icmp .ne 16, 3) := by decide +kernel
theorem dX1_partnerOf_9 : decode cX1_partnerOf 9 = .ok (.aload_n 0, 1) := by decide +kernel
theorem dX1_partnerOf_10 : decode cX1_partnerOf 10 = .ok (.iload_n 1, 1) := by decide +kernel
theorem dX1_partnerOf_11 : decode cX1_partnerOf 11 = .ok (.aload_n 0, 1) := by decide +kernel
theorem dX1_partnerOf_12 : decode cX1_partnerOf 12 = .ok (.iload_n 1, 1) := by decide +kernel
theorem dX1_partnerOf_13 : decode cX1_partnerOf 13 = .ok (.invokevirtual 44, 3) := by decide +kernel
theorem dX1_partnerOf_16 : decode cX1_partnerOf 16 = .ok (.invokevirtual 80, 3) := by decide +kernel
theorem dX1_partnerOf_19 : decode cX1_partnerOf 19 = .ok (.iconst 1, 1) := by decide +kernel
theorem dX1_partnerOf_20 : decode cX1_partnerOf 20 = .ok (.isub, 1) := by decide +kernel
theorem dX1_partnerOf_21 : decode cX1_partnerOf 21 = .ok (.ireturn, 1) := by decide +kernel
theorem dX1_partnerOf_22 : decode cX1_partnerOf 22 = .ok (.aload_n 0, 1) := by decide +kernel
theorem dX1_partnerOf_23 : decode cX1_partnerOf 23 = .ok (.iload_n 1, 1) := by decide +kernel
theorem dX1_partnerOf_24 : decode cX1_partnerOf 24 = .ok (.aload_n 0, 1) := by decide +kernel
theorem dX1_partnerOf_25 : decode cX1_partnerOf 25 = .ok (.iload_n 1, 1) := by decide +kernel
theorem dX1_partnerOf_26 : decode cX1_partnerOf 26 = .ok (.iconst 1, 1) := by decide +kernel
theorem dX1_partnerOf_27 : decode cX1_partnerOf 27 = .ok (.iadd, 1) := by decide +kernel
theorem dX1_partnerOf_28 : decode cX1_partnerOf 28 = .ok (.invokevirtual 44, 3) := by decide +kernel
theorem dX1_partnerOf_31 : decode cX1_partnerOf 31 = .ok (.invokevirtual 84, 3) := by decide +kernel
theorem dX1_partnerOf_34 : decode cX1_partnerOf 34 = .ok (.ireturn, 1) := by decide +kernel
set_option maxRecDepth 20000 in
theorem ggX1_extremeIn_X1_excessAt : GoodIn wsX1_extremeIn wsX1_excessAt := goodIn_r _ [15, 16, 17, 18, 19, 20, 21, 22, 23, 24, 25, 26, 27, 28, 29, 34, 35, 36, 37, 38, 39] rfl (by decide +kernel)
set_option maxRecDepth 20000 in
theorem gX1_extremeIn_X1_excessAt : GoodIn wsX1_extremeIn (wsV RX1 44 RX1 yX1_excessAt wsX1_excessAt) := goodIn_app (goodIn_of _ (by decide +kernel)) ggX1_extremeIn_X1_excessAt
set_option maxRecDepth 20000 in
theorem ggX1_extremeIn_X1_stepAt : GoodIn wsX1_extremeIn wsX1_stepAt := goodIn_r _ [33, 16, 17, 34, 35, 36, 37, 38, 39] rfl (by decide +kernel)
set_option maxRecDepth 20000 in
theorem gX1_extremeIn_X1_stepAt : GoodIn wsX1_extremeIn (wsV RX1 74 RX1 yX1_stepAt wsX1_stepAt) := goodIn_app (goodIn_of _ (by decide +kernel)) ggX1_extremeIn_X1_stepAt
theorem dX1_extremeIn_0 : decode cX1_extremeIn 0 = .ok (.aload_n 0, 1) := by decide +kernel
theorem dX1_extremeIn_1 : decode cX1_extremeIn 1 = .ok (.iload_n 1, 1) := by decide +kernel
theorem dX1_extremeIn_2 : decode cX1_extremeIn 2 = .ok (.invokevirtual 44, 3) := by decide +kernel
theorem dX1_extremeIn_5 : decode cX1_extremeIn 5 = .ok (.istore 4, 2) := by decide +kernel
theorem dX1_extremeIn_7 : decode cX1_extremeIn 7 = .ok (.iload 4, 2) := by decide +kernel
theorem dX1_extremeIn_9 : decode cX1_extremeIn 9 = .ok (.istore 5, 2) := by decide +kernel
theorem dX1_extremeIn_11 : decode cX1_extremeIn 11 = .ok (.iload_n 1, 1) := by decide +kernel
theorem dX1_extremeIn_12 : decode cX1_extremeIn 12 = .ok (.istore 6, 2) := by decide +kernel
theorem dX1_extremeIn_14 : decode cX1_extremeIn 14 = .ok (.iload 6, 2) := by decide +kernel
theorem dX1_extremeIn_16 : decode cX1_extremeIn 16 = .ok (.iload_n 2, 1) := by decide +kernel
theorem dX1_extremeIn_17 : decode cX1_extremeIn 17 = .ok (.if_icmp .ge 115, 3) := by decide +kernel
theorem dX1_extremeIn_20 : decode cX1_extremeIn 20 = .ok (.iload 6, 2) := by decide +kernel
theorem dX1_extremeIn_22 : decode cX1_extremeIn 22 = .ok (.bipush 16, 2) := by decide +kernel
theorem dX1_extremeIn_24 : decode cX1_extremeIn 24 = .ok (.irem, 1) := by decide +kernel
theorem dX1_extremeIn_25 : decode cX1_extremeIn 25 = .ok (.ifCond .ne 63, 3) := by decide +kernel
theorem dX1_extremeIn_28 : decode cX1_extremeIn 28 = .ok (.iload 6, 2) := by decide +kernel
theorem dX1_extremeIn_30 : decode cX1_extremeIn 30 = .ok (.bipush 16, 2) := by decide +kernel
theorem dX1_extremeIn_32 : decode cX1_extremeIn 32 = .ok (.iadd, 1) := by decide +kernel
theorem dX1_extremeIn_33 : decode cX1_extremeIn 33 = .ok (.iload_n 2, 1) := by decide +kernel
theorem dX1_extremeIn_34 : decode cX1_extremeIn 34 = .ok (.if_icmp .gt 54, 3) := by decide +kernel
theorem dX1_extremeIn_37 : decode cX1_extremeIn 37 = .ok (.iload 6, 2) := by decide +kernel
theorem dX1_extremeIn_39 : decode cX1_extremeIn 39 = .ok (.bipush 16, 2) := by decide +kernel
theorem dX1_extremeIn_41 : decode cX1_extremeIn 41 = .ok (.idiv, 1) := by decide +kernel
theorem dX1_extremeIn_42 : decode cX1_extremeIn 42 = .ok (.istore 8, 2) := by decide +kernel
theorem dX1_extremeIn_44 : decode cX1_extremeIn 44 = .ok (.iload 4, 2) := by decide +kernel
theorem dX1_extremeIn_46 : decode cX1_extremeIn 46 = .ok (.iload_n 3, 1) := by decide +kernel
theorem dX1_extremeIn_47 : decode cX1_extremeIn 47 = .ok (.ifCond .eq 13, 3) := by decide +kernel
theorem dX1_extremeIn_50 : decode cX1_extremeIn 50 = .ok (.aload_n 0, 1) := by decide +kernel
theorem dX1_extremeIn_51 : decode cX1_extremeIn 51 = .ok (.getfield 18, 3) := by decide +kernel
theorem dX1_extremeIn_54 : decode cX1_extremeIn 54 = .ok (.iload 8, 2) := by decide +kernel
theorem dX1_extremeIn_56 : decode cX1_extremeIn 56 = .ok (.iaload, 1) := by decide +kernel
theorem dX1_extremeIn_57 : decode cX1_extremeIn 57 = .ok (.goto 10, 3) := by decide +kernel
theorem dX1_extremeIn_60 : decode cX1_extremeIn 60 = .ok (.aload_n 0, 1) := by decide +kernel
theorem dX1_extremeIn_61 : decode cX1_extremeIn 61 = .ok (.getfield 15, 3) := by decide +kernel
theorem dX1_extremeIn_64 : decode cX1_extremeIn 64 = .ok (.iload 8, 2) := by decide +kernel
theorem dX1_extremeIn_66 : decode cX1_extremeIn 66 = .ok (.iaload, 1) := by decide +kernel
theorem dX1_extremeIn_67 : decode cX1_extremeIn 67 = .ok (.iadd, 1) := by decide +kernel
theorem dX1_extremeIn_68 : decode cX1_extremeIn 68 = .ok (.istore 7, 2) := by decide +kernel
theorem dX1_extremeIn_70 : decode cX1_extremeIn 70 = .ok (.iload 4, 2) := by decide +kernel
theorem dX1_extremeIn_72 : decode cX1_extremeIn 72 = .ok (.aload_n 0, 1) := by decide +kernel
theorem dX1_extremeIn_73 : decode cX1_extremeIn 73 = .ok (.getfield 9, 3) := by decide +kernel
theorem dX1_extremeIn_76 : decode cX1_extremeIn 76 = .ok (.iload 8, 2) := by decide +kernel
theorem dX1_extremeIn_78 : decode cX1_extremeIn 78 = .ok (.iaload, 1) := by decide +kernel
theorem dX1_extremeIn_79 : decode cX1_extremeIn 79 = .ok (.iadd, 1) := by decide +kernel
theorem dX1_extremeIn_80 : decode cX1_extremeIn 80 = .ok (.istore 4, 2) := by decide +kernel
theorem dX1_extremeIn_82 : decode cX1_extremeIn 82 = .ok (.iinc 6 16, 3) := by decide +kernel
theorem dX1_extremeIn_85 : decode cX1_extremeIn 85 = .ok (.goto 21, 3) := by decide +kernel
theorem dX1_extremeIn_88 : decode cX1_extremeIn 88 = .ok (.iload 4, 2) := by decide +kernel
theorem dX1_extremeIn_90 : decode cX1_extremeIn 90 = .ok (.aload_n 0, 1) := by decide +kernel
theorem dX1_extremeIn_91 : decode cX1_extremeIn 91 = .ok (.iload 6, 2) := by decide +kernel
theorem dX1_extremeIn_93 : decode cX1_extremeIn 93 = .ok (.invokevirtual 74, 3) := by decide +kernel
theorem dX1_extremeIn_96 : decode cX1_extremeIn 96 = .ok (.iadd, 1) := by decide +kernel
theorem dX1_extremeIn_97 : decode cX1_extremeIn 97 = .ok (.istore 4, 2) := by decide +kernel
theorem dX1_extremeIn_99 : decode cX1_extremeIn 99 = .ok (.iload 4, 2) := by decide +kernel
theorem dX1_extremeIn_101 : decode cX1_extremeIn 101 = .ok (.istore 7, 2) := by decide +kernel
theorem dX1_extremeIn_103 : decode cX1_extremeIn 103 = .ok (.iinc 6 1, 3) := by decide +kernel
theorem dX1_extremeIn_106 : decode cX1_extremeIn 106 = .ok (.iload_n 3, 1) := by decide +kernel
theorem dX1_extremeIn_107 : decode cX1_extremeIn 107 = .ok (.ifCond .eq 13, 3) := by decide +kernel
theorem dX1_extremeIn_110 : decode cX1_extremeIn 110 = .ok (.iload 5, 2) := by decide +kernel
theorem dX1_extremeIn_112 : decode cX1_extremeIn 112 = .ok (.iload 7, 2) := by decide +kernel
theorem dX1_extremeIn_114 : decode cX1_extremeIn 114 = .ok (.invokestatic 87, 3) := by decide +kernel
theorem dX1_extremeIn_117 : decode cX1_extremeIn 117 = .ok (.goto 10, 3) := by decide +kernel
theorem dX1_extremeIn_120 : decode cX1_extremeIn 120 = .ok (.iload 5, 2) := by decide +kernel
theorem dX1_extremeIn_122 : decode cX1_extremeIn 122 = .ok (.iload 7, 2) := by decide +kernel
theorem dX1_extremeIn_124 : decode cX1_extremeIn 124 = .ok (.invokestatic 92, 3) := by decide +kernel
theorem dX1_extremeIn_127 : decode cX1_extremeIn 127 = .ok (.istore 5, 2) := by decide +kernel
theorem dX1_extremeIn_129 : decode cX1_extremeIn 129 = .ok (.goto (-115), 3) := by decide +kernel
theorem dX1_extremeIn_132 : decode cX1_extremeIn 132 = .ok (.iload 5, 2) := by decide +kernel
theorem dX1_extremeIn_134 : decode cX1_extremeIn 134 = .ok (.ireturn, 1) := by decide +kernel
set_option maxRecDepth 20000 in
theorem ggX1_firstWith_X1_excessAt : GoodIn wsX1_firstWith wsX1_excessAt := goodIn_r _ [5, 6, 7, 8, 9, 10, 11, 12, 13, 14, 15, 16, 17, 18, 19, 36, 37, 38, 39, 40, 41] rfl (by decide +kernel)
set_option maxRecDepth 20000 in
theorem gX1_firstWith_X1_excessAt : GoodIn wsX1_firstWith (wsV RX1 44 RX1 yX1_excessAt wsX1_excessAt) := goodIn_app (goodIn_of _ (by decide +kernel)) ggX1_firstWith_X1_excessAt
set_option maxRecDepth 20000 in
theorem ggX1_firstWith_X1_searchOn : GoodIn wsX1_firstWith wsX1_searchOn := goodIn_r _ [23, 24, 25, 1, 2, 3, 4, 5, 6, 7, 8, 9, 10, 11, 12, 13, 14, 15, 16, 17, 18, 19, 26, 27, 28, 29, 30, 31, 32, 33, 34, 35, 36, 37, 38, 39, 40, 41] rfl (by decide +kernel)
set_option maxRecDepth 20000 in
theorem gX1_firstWith_X1_searchOn : GoodIn wsX1_firstWith (wsV RX1 80 RX1 yX1_searchOn wsX1_searchOn) := goodIn_app (goodIn_of _ (by decide +kernel)) ggX1_firstWith_X1_searchOn
theorem dX1_firstWith_0 : decode cX1_firstWith 0 = .ok (.aload_n 0, 1) := by decide +kernel
theorem dX1_firstWith_1 : decode cX1_firstWith 1 = .ok (.iload_n 1, 1) := by decide +kernel
theorem dX1_firstWith_2 : decode cX1_firstWith 2 = .ok (.invokevirtual 44, 3) := by decide +kernel
theorem dX1_firstWith_5 : decode cX1_firstWith 5 = .ok (.iload_n 2, 1) := by decide +kernel
theorem dX1_firstWith_6 : decode cX1_firstWith 6 = .ok (.if_icmp .ne 7, 3) := by decide +kernel
theorem dX1_firstWith_9 : decode cX1_firstWith 9 = .ok (.iload_n 1, 1) := by decide +kernel
theorem dX1_firstWith_10 : decode cX1_firstWith 10 = .ok (.goto 9, 3) := by decide +kernel
theorem dX1_firstWith_13 : decode cX1_firstWith 13 = .ok (.aload_n 0, 1) := by decide +kernel
theorem dX1_firstWith_14 : decode cX1_firstWith 14 = .ok (.iload_n 1, 1) := by decide +kernel
theorem dX1_firstWith_15 : decode cX1_firstWith 15 = .ok (.iload_n 2, 1) := by decide +kernel
theorem dX1_firstWith_16 : decode cX1_firstWith 16 = .ok (.invokevirtual 80, 3) := by decide +kernel
theorem dX1_firstWith_19 : decode cX1_firstWith 19 = .ok (.ireturn, 1) := by decide +kernel
set_option maxRecDepth 20000 in
theorem ggX1_pointsWith_X1_excessAt : GoodIn wsX1_pointsWith wsX1_excessAt := goodIn_r _ [5, 6, 7, 8, 9, 10, 11, 12, 13, 14, 15, 16, 17, 18, 19, 24, 25, 26, 27, 28, 29] rfl (by decide +kernel)
set_option maxRecDepth 20000 in
theorem gX1_pointsWith_X1_excessAt : GoodIn wsX1_pointsWith (wsV RX1 44 RX1 yX1_excessAt wsX1_excessAt) := goodIn_app (goodIn_of _ (by decide +kernel)) ggX1_pointsWith_X1_excessAt
set_option maxRecDepth 20000 in
theorem ggX1_pointsWith_X1_stepAt : GoodIn wsX1_pointsWith wsX1_stepAt := goodIn_r _ [23, 6, 7, 24, 25, 26, 27, 28, 29] rfl (by decide +kernel)
set_option maxRecDepth 20000 in
theorem gX1_pointsWith_X1_stepAt : GoodIn wsX1_pointsWith (wsV RX1 74 RX1 yX1_stepAt wsX1_stepAt) := goodIn_app (goodIn_of _ (by decide +kernel)) ggX1_pointsWith_X1_stepAt
theorem dX1_pointsWith_0 : decode cX1_pointsWith 0 = .ok (.aload_n 0, 1) := by decide +kernel
theorem dX1_pointsWith_1 : decode cX1_pointsWith 1 = .ok (.iload_n 1, 1) := by decide +kernel
theorem dX1_pointsWith_2 : decode cX1_pointsWith 2 = .ok (.invokevirtual 44, 3) := by decide +kernel
theorem dX1_pointsWith_5 : decode cX1_pointsWith 5 = .ok (.istore 4, 2) := by decide +kernel
theorem dX1_pointsWith_7 : decode cX1_pointsWith 7 = .ok (.iload 4, 2) := by decide +kernel
theorem dX1_pointsWith_9 : decode cX1_pointsWith 9 = .ok (.iload_n 3, 1) := by decide +kernel
theorem dX1_pointsWith_10 : decode cX1_pointsWith 10 = .ok (.if_icmp .ne 7, 3) := by decide +kernel
theorem dX1_pointsWith_13 : decode cX1_pointsWith 13 = .ok (.iconst 1, 1) := by decide +kernel
theorem dX1_pointsWith_14 : decode cX1_pointsWith 14 = .ok (.goto 4, 3) := by decide +kernel
theorem dX1_pointsWith_17 : decode cX1_pointsWith 17 = .ok (.iconst 0, 1) := by decide +kernel
theorem dX1_pointsWith_18 : decode cX1_pointsWith 18 = .ok (.istore 5, 2) := by decide +kernel
theorem dX1_pointsWith_20 : decode cX1_pointsWith 20 = .ok (.iload_n 1, 1) := by decide +kernel
theorem dX1_pointsWith_21 : decode cX1_pointsWith 21 = .ok (.istore 6, 2) := by decide +kernel
theorem dX1_pointsWith_23 : decode cX1_pointsWith 23 = .ok (.iload 6, 2) := by decide +kernel
theorem dX1_pointsWith_25 : decode cX1_pointsWith 25 = .ok (.iload_n 2, 1) := by decide +kernel
theorem dX1_pointsWith_26 : decode cX1_pointsWith 26 = .ok (.if_icmp .ge 29, 3) := by decide +kernel
theorem dX1_pointsWith_29 : decode cX1_pointsWith 29 = .ok (.iload 4, 2) := by decide +kernel
theorem dX1_pointsWith_31 : decode cX1_pointsWith 31 = .ok (.aload_n 0, 1) := by decide +kernel
theorem dX1_pointsWith_32 : decode cX1_pointsWith 32 = .ok (.iload 6, 2) := by decide +kernel
theorem dX1_pointsWith_34 : decode cX1_pointsWith 34 = .ok (.invokevirtual 74, 3) := by decide +kernel
theorem dX1_pointsWith_37 : decode cX1_pointsWith 37 = .ok (.iadd, 1) := by decide +kernel
theorem dX1_pointsWith_38 : decode cX1_pointsWith 38 = .ok (.istore 4, 2) := by decide +kernel
theorem dX1_pointsWith_40 : decode cX1_pointsWith 40 = .ok (.iload 4, 2) := by decide +kernel
theorem dX1_pointsWith_42 : decode cX1_pointsWith 42 = .ok (.iload_n 3, 1) := by decide +kernel
theorem dX1_pointsWith_43 : decode cX1_pointsWith 43 = .ok (.if_icmp .ne 6, 3) := by decide +kernel
theorem dX1_pointsWith_46 : decode cX1_pointsWith 46 = .ok (.iinc 5 1, 3) := by decide +kernel
theorem dX1_pointsWith_49 : decode cX1_pointsWith 49 = .ok (.iinc 6 1, 3) := by decide +kernel
theorem dX1_pointsWith_52 : decode cX1_pointsWith 52 = .ok (.goto (-29), 3) := by decide +kernel
theorem dX1_pointsWith_55 : decode cX1_pointsWith 55 = .ok (.iload 5, 2) := by decide +kernel
theorem dX1_pointsWith_57 : decode cX1_pointsWith 57 = .ok (.ireturn, 1) := by decide +kernel
set_option maxRecDepth 20000 in
theorem ggX1_isOfTree_X1_bitAt : GoodIn wsX1_isOfTree wsX1_bitAt := goodIn_r _ [6, 7, 8, 40, 41, 42, 43, 44, 45] rfl (by decide +kernel)
set_option maxRecDepth 20000 in
theorem gX1_isOfTree_X1_bitAt : GoodIn wsX1_isOfTree (wsV RX1 77 RX1 yX1_bitAt wsX1_bitAt) := goodIn_app (goodIn_of _ (by decide +kernel)) ggX1_isOfTree_X1_bitAt
set_option maxRecDepth 20000 in
theorem ggX1_isOfTree_X1_searchOn : GoodIn wsX1_isOfTree wsX1_searchOn := goodIn_r _ [12, 1, 13, 14, 15, 16, 5, 17, 7, 8, 18, 19, 20, 21, 22, 23, 24, 25, 26, 27, 28, 29, 30, 31, 32, 33, 34, 35, 36, 37, 38, 39, 40, 41, 42, 43, 44, 45] rfl (by decide +kernel)
set_option maxRecDepth 20000 in
theorem gX1_isOfTree_X1_searchOn : GoodIn wsX1_isOfTree (wsV RX1 80 RX1 yX1_searchOn wsX1_searchOn) := goodIn_app (goodIn_of _ (by decide +kernel)) ggX1_isOfTree_X1_searchOn
theorem dX1_isOfTree_0 : decode cX1_isOfTree 0 = .ok (.aload_n 0, 1) := by decide +kernel
theorem dX1_isOfTree_1 : decode cX1_isOfTree 1 = .ok (.getfield 21, 3) := by decide +kernel
theorem dX1_isOfTree_4 : decode cX1_isOfTree 4 = .ok (.ifCond .eq 25, 3) := by decide +kernel
theorem dX1_isOfTree_7 : decode cX1_isOfTree 7 = .ok (.aload_n 0, 1) := by decide +kernel
theorem dX1_isOfTree_8 : decode cX1_isOfTree 8 = .ok (.iconst 0, 1) := by decide +kernel
theorem dX1_isOfTree_9 : decode cX1_isOfTree 9 = .ok (.invokevirtual 77, 3) := by decide +kernel
theorem dX1_isOfTree_12 : decode cX1_isOfTree 12 = .ok (.iconst 1, 1) := by decide +kernel
theorem dX1_isOfTree_13 : decode cX1_isOfTree 13 = .ok (.if_icmp .ne 20, 3) := by decide +kernel
theorem dX1_isOfTree_16 : decode cX1_isOfTree 16 = .ok (.aload_n 0, 1) := by decide +kernel
theorem dX1_isOfTree_17 : decode cX1_isOfTree 17 = .ok (.iconst 0, 1) := by decide +kernel
theorem dX1_isOfTree_18 : decode cX1_isOfTree 18 = .ok (.iconst 0, 1) := by decide +kernel
theorem dX1_isOfTree_19 : decode cX1_isOfTree 19 = .ok (.invokevirtual 80, 3) := by decide +kernel
theorem dX1_isOfTree_22 : decode cX1_isOfTree 22 = .ok (.aload_n 0, 1) := by decide +kernel
theorem dX1_isOfTree_23 : decode cX1_isOfTree 23 = .ok (.getfield 21, 3) := by decide +kernel
theorem dX1_isOfTree_26 : decode cX1_isOfTree 26 = .ok (.if_icmp .ne 7, 3) := by decide +kernel
theorem dX1_isOfTree_29 : decode cX1_isOfTree 29 = .ok (.iconst 1, 1) := by decide +kernel
theorem dX1_isOfTree_30 : decode cX1_isOfTree 30 = .ok (.goto 4, 3) := by decide +kernel
theorem dX1_isOfTree_33 : decode cX1_isOfTree 33 = .ok (.iconst 0, 1) := by decide +kernel
theorem dX1_isOfTree_34 : decode cX1_isOfTree 34 = .ok (.ireturn, 1) := by decide +kernel
theorem dX1_clear_0 : decode cX1_clear 0 = .ok (.aload_n 0, 1) := by decide +kernel
theorem dX1_clear_1 : decode cX1_clear 1 = .ok (.lconst 0, 1) := by decide +kernel
theorem dX1_clear_2 : decode cX1_clear 2 = .ok (.putfield 25, 3) := by decide +kernel
theorem dX1_clear_5 : decode cX1_clear 5 = .ok (.aload_n 0, 1) := by decide +kernel
theorem dX1_clear_6 : decode cX1_clear 6 = .ok (.lconst 0, 1) := by decide +kernel
theorem dX1_clear_7 : decode cX1_clear 7 = .ok (.putfield 29, 3) := by decide +kernel
theorem dX1_clear_10 : decode cX1_clear 10 = .ok (.aload_n 0, 1) := by decide +kernel
theorem dX1_clear_11 : decode cX1_clear 11 = .ok (.iconst 0, 1) := by decide +kernel
theorem dX1_clear_12 : decode cX1_clear 12 = .ok (.putfield 21, 3) := by decide +kernel
theorem dX1_clear_15 : decode cX1_clear 15 = .ok (.return_, 1) := by decide +kernel
theorem dX1_append_0 : decode cX1_append 0 = .ok (.aload_n 0, 1) := by decide +kernel
theorem dX1_append_1 : decode cX1_append 1 = .ok (.getfield 21, 3) := by decide +kernel
theorem dX1_append_4 : decode cX1_append 4 = .ok (.sipush 128, 3) := by decide +kernel
theorem dX1_append_7 : decode cX1_append 7 = .ok (.if_icmp .lt 4, 3) := by decide +kernel
theorem dX1_append_10 : decode cX1_append 10 = .ok (.return_, 1) := by decide +kernel
theorem dX1_append_11 : decode cX1_append 11 = .ok (.aload_n 0, 1) := by decide +kernel
theorem dX1_append_12 : decode cX1_append 12 = .ok (.getfield 21, 3) := by decide +kernel
theorem dX1_append_15 : decode cX1_append 15 = .ok (.bipush 64, 2) := by decide +kernel
theorem dX1_append_17 : decode cX1_append 17 = .ok (.if_icmp .ge 22, 3) := by decide +kernel
theorem dX1_append_20 : decode cX1_append 20 = .ok (.aload_n 0, 1) := by decide +kernel
theorem dX1_append_21 : decode cX1_append 21 = .ok (.dup, 1) := by decide +kernel
theorem dX1_append_22 : decode cX1_append 22 = .ok (.getfield 25, 3) := by decide +kernel
theorem dX1_append_25 : decode cX1_append 25 = .ok (.iload_n 1, 1) := by decide +kernel
theorem dX1_append_26 : decode cX1_append 26 = .ok (.i2l, 1) := by decide +kernel
theorem dX1_append_27 : decode cX1_append 27 = .ok (.aload_n 0, 1) := by decide +kernel
theorem dX1_append_28 : decode cX1_append 28 = .ok (.getfield 21, 3) := by decide +kernel
theorem dX1_append_31 : decode cX1_append 31 = .ok (.lshl, 1) := by decide +kernel
theorem dX1_append_32 : decode cX1_append 32 = .ok (.lor, 1) := by decide +kernel
theorem dX1_append_33 : decode cX1_append 33 = .ok (.putfield 25, 3) := by decide +kernel
theorem dX1_append_36 : decode cX1_append 36 = .ok (.goto 22, 3) := by decide +kernel
theorem dX1_append_39 : decode cX1_append 39 = .ok (.aload_n 0, 1) := by decide +kernel
theorem dX1_append_40 : decode cX1_append 40 = .ok (.dup, 1) := by decide +kernel
theorem dX1_append_41 : decode cX1_append 41 = .ok (.getfield 29, 3) := by decide +kernel
theorem dX1_append_44 : decode cX1_append 44 = .ok (.iload_n 1, 1) := by decide +kernel
theorem dX1_append_45 : decode cX1_append 45 = .ok (.i2l, 1) := by decide +kernel
theorem dX1_append_46 : decode cX1_append 46 = .ok (.aload_n 0, 1) := by decide +kernel
theorem dX1_append_47 : decode cX1_append 47 = .ok (.getfield 21, 3) := by decide +kernel
theorem dX1_append_50 : decode cX1_append 50 = .ok (.bipush 64, 2) := by decide +kernel
theorem dX1_append_52 : decode cX1_append 52 = .ok (.isub, 1) := by decide +kernel
theorem dX1_append_53 : decode cX1_append 53 = .ok (.lshl, 1) := by decide +kernel
theorem dX1_append_54 : decode cX1_append 54 = .ok (.lor, 1) := by decide +kernel
theorem dX1_append_55 : decode cX1_append 55 = .ok (.putfield 29, 3) := by decide +kernel
theorem dX1_append_58 : decode cX1_append 58 = .ok (.aload_n 0, 1) := by decide +kernel
theorem dX1_append_59 : decode cX1_append 59 = .ok (.dup, 1) := by decide +kernel
theorem dX1_append_60 : decode cX1_append 60 = .ok (.getfield 21, 3) := by decide +kernel
theorem dX1_append_63 : decode cX1_append 63 = .ok (.iconst 1, 1) := by decide +kernel
theorem dX1_append_64 : decode cX1_append 64 = .ok (.iadd, 1) := by decide +kernel
theorem dX1_append_65 : decode cX1_append 65 = .ok (.putfield 21, 3) := by decide +kernel
theorem dX1_append_68 : decode cX1_append 68 = .ok (.return_, 1) := by decide +kernel
set_option maxRecDepth 20000 in
theorem ggX1_takenLow_X0_downLow : GoodIn wsX1_takenLow wsX0_downLow := goodIn_r _ [6] rfl (by decide +kernel)
set_option maxRecDepth 20000 in
theorem gX1_takenLow_X0_downLow : GoodIn wsX1_takenLow (va_wsS RX1 52 yX0_downLow wsX0_downLow) := goodIn_app (goodIn_of _ (by decide +kernel)) ggX1_takenLow_X0_downLow
set_option maxRecDepth 20000 in
theorem ggX1_takenLow_X0_firstOf : GoodIn wsX1_takenLow wsX0_firstOf := goodIn_r _ [9, 10] rfl (by decide +kernel)
set_option maxRecDepth 20000 in
theorem gX1_takenLow_X0_firstOf : GoodIn wsX1_takenLow (va_wsS RX1 32 yX0_firstOf wsX0_firstOf) := goodIn_app (goodIn_of _ (by decide +kernel)) ggX1_takenLow_X0_firstOf
theorem dX1_takenLow_0 : decode cX1_takenLow 0 = .ok (.aload_n 0, 1) := by decide +kernel
theorem dX1_takenLow_1 : decode cX1_takenLow 1 = .ok (.getfield 25, 3) := by decide +kernel
theorem dX1_takenLow_4 : decode cX1_takenLow 4 = .ok (.aload_n 0, 1) := by decide +kernel
theorem dX1_takenLow_5 : decode cX1_takenLow 5 = .ok (.getfield 29, 3) := by decide +kernel
theorem dX1_takenLow_8 : decode cX1_takenLow 8 = .ok (.iload_n 1, 1) := by decide +kernel
theorem dX1_takenLow_9 : decode cX1_takenLow 9 = .ok (.invokestatic 52, 3) := by decide +kernel
theorem dX1_takenLow_12 : decode cX1_takenLow 12 = .ok (.iload_n 2, 1) := by decide +kernel
theorem dX1_takenLow_13 : decode cX1_takenLow 13 = .ok (.invokestatic 32, 3) := by decide +kernel
theorem dX1_takenLow_16 : decode cX1_takenLow 16 = .ok (.land, 1) := by decide +kernel
theorem dX1_takenLow_17 : decode cX1_takenLow 17 = .ok (.lreturn, 1) := by decide +kernel
set_option maxRecDepth 20000 in
theorem ggX1_takenHigh_X0_downHigh : GoodIn wsX1_takenHigh wsX0_downHigh := goodIn_r _ [5] rfl (by decide +kernel)
set_option maxRecDepth 20000 in
theorem gX1_takenHigh_X0_downHigh : GoodIn wsX1_takenHigh (va_wsS RX1 56 yX0_downHigh wsX0_downHigh) := goodIn_app (goodIn_of _ (by decide +kernel)) ggX1_takenHigh_X0_downHigh
set_option maxRecDepth 20000 in
theorem ggX1_takenHigh_X0_firstOf : GoodIn wsX1_takenHigh wsX0_firstOf := goodIn_r _ [8, 9] rfl (by decide +kernel)
set_option maxRecDepth 20000 in
theorem gX1_takenHigh_X0_firstOf : GoodIn wsX1_takenHigh (va_wsS RX1 32 yX0_firstOf wsX0_firstOf) := goodIn_app (goodIn_of _ (by decide +kernel)) ggX1_takenHigh_X0_firstOf
theorem dX1_takenHigh_0 : decode cX1_takenHigh 0 = .ok (.aload_n 0, 1) := by decide +kernel
theorem dX1_takenHigh_1 : decode cX1_takenHigh 1 = .ok (.getfield 29, 3) := by decide +kernel
theorem dX1_takenHigh_4 : decode cX1_takenHigh 4 = .ok (.iload_n 1, 1) := by decide +kernel
theorem dX1_takenHigh_5 : decode cX1_takenHigh 5 = .ok (.invokestatic 56, 3) := by decide +kernel
theorem dX1_takenHigh_8 : decode cX1_takenHigh 8 = .ok (.iload_n 2, 1) := by decide +kernel
theorem dX1_takenHigh_9 : decode cX1_takenHigh 9 = .ok (.bipush 64, 2) := by decide +kernel
theorem dX1_takenHigh_11 : decode cX1_takenHigh 11 = .ok (.isub, 1) := by decide +kernel
theorem dX1_takenHigh_12 : decode cX1_takenHigh 12 = .ok (.invokestatic 32, 3) := by decide +kernel
theorem dX1_takenHigh_15 : decode cX1_takenHigh 15 = .ok (.land, 1) := by decide +kernel
theorem dX1_takenHigh_16 : decode cX1_takenHigh 16 = .ok (.lreturn, 1) := by decide +kernel
set_option maxRecDepth 20000 in
theorem ggX1_remove_X0_firstOf : GoodIn wsX1_remove wsX0_firstOf := goodIn_r _ [8, 9] rfl (by decide +kernel)
set_option maxRecDepth 20000 in
theorem gX1_remove_X0_firstOf : GoodIn wsX1_remove (va_wsS RX1 32 yX0_firstOf wsX0_firstOf) := goodIn_app (goodIn_of _ (by decide +kernel)) ggX1_remove_X0_firstOf
set_option maxRecDepth 20000 in
theorem ggX1_remove_X0_downLow : GoodIn wsX1_remove wsX0_downLow := goodIn_r _ [12] rfl (by decide +kernel)
set_option maxRecDepth 20000 in
theorem gX1_remove_X0_downLow : GoodIn wsX1_remove (va_wsS RX1 52 yX0_downLow wsX0_downLow) := goodIn_app (goodIn_of _ (by decide +kernel)) ggX1_remove_X0_downLow
set_option maxRecDepth 20000 in
theorem ggX1_remove_X0_downHigh : GoodIn wsX1_remove wsX0_downHigh := goodIn_r _ [15] rfl (by decide +kernel)
set_option maxRecDepth 20000 in
theorem gX1_remove_X0_downHigh : GoodIn wsX1_remove (va_wsS RX1 56 yX0_downHigh wsX0_downHigh) := goodIn_app (goodIn_of _ (by decide +kernel)) ggX1_remove_X0_downHigh
set_option maxRecDepth 20000 in
theorem ggX1_remove_X1_summarise : GoodIn wsX1_remove wsX1_summarise := goodIn_r _ [20, 21, 22, 23, 19, 24, 4, 25, 26, 27, 28, 29, 30, 31, 32, 33, 34, 35, 36, 37, 38, 1, 2, 39, 40, 41, 42, 43, 44] rfl (by decide +kernel)
set_option maxRecDepth 20000 in
theorem gX1_remove_X1_summarise : GoodIn wsX1_remove (wsV RX1 95 RX1 yX1_summarise wsX1_summarise) := goodIn_app (goodIn_of _ (by decide +kernel)) ggX1_remove_X1_summarise
theorem dX1_remove_0 : decode cX1_remove 0 = .ok (.iload_n 1, 1) := by decide +kernel
theorem dX1_remove_1 : decode cX1_remove 1 = .ok (.invokestatic 32, 3) := by decide +kernel
theorem dX1_remove_4 : decode cX1_remove 4 = .ok (.lstore_n 3, 1) := by decide +kernel
theorem dX1_remove_5 : decode cX1_remove 5 = .ok (.iload_n 1, 1) := by decide +kernel
theorem dX1_remove_6 : decode cX1_remove 6 = .ok (.bipush 64, 2) := by decide +kernel
theorem dX1_remove_8 : decode cX1_remove 8 = .ok (.isub, 1) := by decide +kernel
theorem dX1_remove_9 : decode cX1_remove 9 = .ok (.invokestatic 32, 3) := by decide +kernel
theorem dX1_remove_12 : decode cX1_remove 12 = .ok (.lstore 5, 2) := by decide +kernel
theorem dX1_remove_14 : decode cX1_remove 14 = .ok (.aload_n 0, 1) := by decide +kernel
theorem dX1_remove_15 : decode cX1_remove 15 = .ok (.getfield 25, 3) := by decide +kernel
theorem dX1_remove_18 : decode cX1_remove 18 = .ok (.lload_n 3, 1) := by decide +kernel
theorem dX1_remove_19 : decode cX1_remove 19 = .ok (.land, 1) := by decide +kernel
theorem dX1_remove_20 : decode cX1_remove 20 = .ok (.aload_n 0, 1) := by decide +kernel
theorem dX1_remove_21 : decode cX1_remove 21 = .ok (.getfield 25, 3) := by decide +kernel
theorem dX1_remove_24 : decode cX1_remove 24 = .ok (.aload_n 0, 1) := by decide +kernel
theorem dX1_remove_25 : decode cX1_remove 25 = .ok (.getfield 29, 3) := by decide +kernel
theorem dX1_remove_28 : decode cX1_remove 28 = .ok (.iload_n 2, 1) := by decide +kernel
theorem dX1_remove_29 : decode cX1_remove 29 = .ok (.invokestatic 52, 3) := by decide +kernel
theorem dX1_remove_32 : decode cX1_remove 32 = .ok (.lload_n 3, 1) := by decide +kernel
theorem dX1_remove_33 : decode cX1_remove 33 = .ok (.ldc2_w 50, 3) := by decide +kernel
theorem dX1_remove_36 : decode cX1_remove 36 = .ok (.lxor, 1) := by decide +kernel
theorem dX1_remove_37 : decode cX1_remove 37 = .ok (.land, 1) := by decide +kernel
theorem dX1_remove_38 : decode cX1_remove 38 = .ok (.lor, 1) := by decide +kernel
theorem dX1_remove_39 : decode cX1_remove 39 = .ok (.lstore 7, 2) := by decide +kernel
theorem dX1_remove_41 : decode cX1_remove 41 = .ok (.aload_n 0, 1) := by decide +kernel
theorem dX1_remove_42 : decode cX1_remove 42 = .ok (.aload_n 0, 1) := by decide +kernel
theorem dX1_remove_43 : decode cX1_remove 43 = .ok (.getfield 29, 3) := by decide +kernel
theorem dX1_remove_46 : decode cX1_remove 46 = .ok (.lload 5, 2) := by decide +kernel
theorem dX1_remove_48 : decode cX1_remove 48 = .ok (.land, 1) := by decide +kernel
theorem dX1_remove_49 : decode cX1_remove 49 = .ok (.aload_n 0, 1) := by decide +kernel
theorem dX1_remove_50 : decode cX1_remove 50 = .ok (.getfield 29, 3) := by decide +kernel
theorem dX1_remove_53 : decode cX1_remove 53 = .ok (.iload_n 2, 1) := by decide +kernel
theorem dX1_remove_54 : decode cX1_remove 54 = .ok (.invokestatic 56, 3) := by decide +kernel
theorem dX1_remove_57 : decode cX1_remove 57 = .ok (.lload 5, 2) := by decide +kernel
theorem dX1_remove_59 : decode cX1_remove 59 = .ok (.ldc2_w 50, 3) := by decide +kernel
theorem dX1_remove_62 : decode cX1_remove 62 = .ok (.lxor, 1) := by decide +kernel
theorem dX1_remove_63 : decode cX1_remove 63 = .ok (.land, 1) := by decide +kernel
theorem dX1_remove_64 : decode cX1_remove 64 = .ok (.lor, 1) := by decide +kernel
theorem dX1_remove_65 : decode cX1_remove 65 = .ok (.putfield 29, 3) := by decide +kernel
theorem dX1_remove_68 : decode cX1_remove 68 = .ok (.aload_n 0, 1) := by decide +kernel
theorem dX1_remove_69 : decode cX1_remove 69 = .ok (.lload 7, 2) := by decide +kernel
theorem dX1_remove_71 : decode cX1_remove 71 = .ok (.putfield 25, 3) := by decide +kernel
theorem dX1_remove_74 : decode cX1_remove 74 = .ok (.aload_n 0, 1) := by decide +kernel
theorem dX1_remove_75 : decode cX1_remove 75 = .ok (.dup, 1) := by decide +kernel
theorem dX1_remove_76 : decode cX1_remove 76 = .ok (.getfield 21, 3) := by decide +kernel
theorem dX1_remove_79 : decode cX1_remove 79 = .ok (.iload_n 2, 1) := by decide +kernel
theorem dX1_remove_80 : decode cX1_remove 80 = .ok (.isub, 1) := by decide +kernel
theorem dX1_remove_81 : decode cX1_remove 81 = .ok (.putfield 21, 3) := by decide +kernel
theorem dX1_remove_84 : decode cX1_remove 84 = .ok (.aload_n 0, 1) := by decide +kernel
theorem dX1_remove_85 : decode cX1_remove 85 = .ok (.iload_n 1, 1) := by decide +kernel
theorem dX1_remove_86 : decode cX1_remove 86 = .ok (.invokevirtual 95, 3) := by decide +kernel
theorem dX1_remove_89 : decode cX1_remove 89 = .ok (.return_, 1) := by decide +kernel
set_option maxRecDepth 20000 in
theorem ggX1_insert_X0_firstOf : GoodIn wsX1_insert wsX0_firstOf := goodIn_r _ [8, 9] rfl (by decide +kernel)
set_option maxRecDepth 20000 in
theorem gX1_insert_X0_firstOf : GoodIn wsX1_insert (va_wsS RX1 32 yX0_firstOf wsX0_firstOf) := goodIn_app (goodIn_of _ (by decide +kernel)) ggX1_insert_X0_firstOf
set_option maxRecDepth 20000 in
theorem ggX1_insert_X0_upHigh : GoodIn wsX1_insert wsX0_upHigh := goodIn_r _ [12] rfl (by decide +kernel)
set_option maxRecDepth 20000 in
theorem gX1_insert_X0_upHigh : GoodIn wsX1_insert (va_wsS RX1 99 yX0_upHigh wsX0_upHigh) := goodIn_app (goodIn_of _ (by decide +kernel)) ggX1_insert_X0_upHigh
set_option maxRecDepth 20000 in
theorem ggX1_insert_X0_upLow : GoodIn wsX1_insert wsX0_upLow := goodIn_r _ [15] rfl (by decide +kernel)
set_option maxRecDepth 20000 in
theorem gX1_insert_X0_upLow : GoodIn wsX1_insert (va_wsS RX1 102 yX0_upLow wsX0_upLow) := goodIn_app (goodIn_of _ (by decide +kernel)) ggX1_insert_X0_upLow
set_option maxRecDepth 20000 in
theorem ggX1_insert_X1_summarise : GoodIn wsX1_insert wsX1_summarise := goodIn_r _ [20, 21, 22, 23, 19, 24, 4, 25, 26, 27, 28, 29, 30, 31, 32, 33, 34, 35, 36, 37, 38, 1, 3, 39, 40, 41, 42, 43, 44] rfl (by decide +kernel)
set_option maxRecDepth 20000 in
theorem gX1_insert_X1_summarise : GoodIn wsX1_insert (wsV RX1 95 RX1 yX1_summarise wsX1_summarise) := goodIn_app (goodIn_of _ (by decide +kernel)) ggX1_insert_X1_summarise
theorem dX1_insert_0 : decode cX1_insert 0 = .ok (.iload_n 1, 1) := by decide +kernel
theorem dX1_insert_1 : decode cX1_insert 1 = .ok (.invokestatic 32, 3) := by decide +kernel
theorem dX1_insert_4 : decode cX1_insert 4 = .ok (.lstore 7, 2) := by decide +kernel
theorem dX1_insert_6 : decode cX1_insert 6 = .ok (.iload_n 1, 1) := by decide +kernel
theorem dX1_insert_7 : decode cX1_insert 7 = .ok (.bipush 64, 2) := by decide +kernel
theorem dX1_insert_9 : decode cX1_insert 9 = .ok (.isub, 1) := by decide +kernel
theorem dX1_insert_10 : decode cX1_insert 10 = .ok (.invokestatic 32, 3) := by decide +kernel
theorem dX1_insert_13 : decode cX1_insert 13 = .ok (.lstore 9, 2) := by decide +kernel
theorem dX1_insert_15 : decode cX1_insert 15 = .ok (.aload_n 0, 1) := by decide +kernel
theorem dX1_insert_16 : decode cX1_insert 16 = .ok (.getfield 25, 3) := by decide +kernel
theorem dX1_insert_19 : decode cX1_insert 19 = .ok (.lload 7, 2) := by decide +kernel
theorem dX1_insert_21 : decode cX1_insert 21 = .ok (.ldc2_w 50, 3) := by decide +kernel
theorem dX1_insert_24 : decode cX1_insert 24 = .ok (.lxor, 1) := by decide +kernel
theorem dX1_insert_25 : decode cX1_insert 25 = .ok (.land, 1) := by decide +kernel
theorem dX1_insert_26 : decode cX1_insert 26 = .ok (.lstore 11, 2) := by decide +kernel
theorem dX1_insert_28 : decode cX1_insert 28 = .ok (.aload_n 0, 1) := by decide +kernel
theorem dX1_insert_29 : decode cX1_insert 29 = .ok (.getfield 29, 3) := by decide +kernel
theorem dX1_insert_32 : decode cX1_insert 32 = .ok (.lload 9, 2) := by decide +kernel
theorem dX1_insert_34 : decode cX1_insert 34 = .ok (.ldc2_w 50, 3) := by decide +kernel
theorem dX1_insert_37 : decode cX1_insert 37 = .ok (.lxor, 1) := by decide +kernel
theorem dX1_insert_38 : decode cX1_insert 38 = .ok (.land, 1) := by decide +kernel
theorem dX1_insert_39 : decode cX1_insert 39 = .ok (.lstore 13, 2) := by decide +kernel
theorem dX1_insert_41 : decode cX1_insert 41 = .ok (.aload_n 0, 1) := by decide +kernel
theorem dX1_insert_42 : decode cX1_insert 42 = .ok (.aload_n 0, 1) := by decide +kernel
theorem dX1_insert_43 : decode cX1_insert 43 = .ok (.getfield 29, 3) := by decide +kernel
theorem dX1_insert_46 : decode cX1_insert 46 = .ok (.lload 9, 2) := by decide +kernel
theorem dX1_insert_48 : decode cX1_insert 48 = .ok (.land, 1) := by decide +kernel
theorem dX1_insert_49 : decode cX1_insert 49 = .ok (.lload 11, 2) := by decide +kernel
theorem dX1_insert_51 : decode cX1_insert 51 = .ok (.lload 13, 2) := by decide +kernel
theorem dX1_insert_53 : decode cX1_insert 53 = .ok (.iload_n 2, 1) := by decide +kernel
theorem dX1_insert_54 : decode cX1_insert 54 = .ok (.invokestatic 99, 3) := by decide +kernel
theorem dX1_insert_57 : decode cX1_insert 57 = .ok (.lor, 1) := by decide +kernel
theorem dX1_insert_58 : decode cX1_insert 58 = .ok (.lload_n 3, 1) := by decide +kernel
theorem dX1_insert_59 : decode cX1_insert 59 = .ok (.lload 5, 2) := by decide +kernel
theorem dX1_insert_61 : decode cX1_insert 61 = .ok (.iload_n 1, 1) := by decide +kernel
theorem dX1_insert_62 : decode cX1_insert 62 = .ok (.invokestatic 99, 3) := by decide +kernel
theorem dX1_insert_65 : decode cX1_insert 65 = .ok (.lor, 1) := by decide +kernel
theorem dX1_insert_66 : decode cX1_insert 66 = .ok (.putfield 29, 3) := by decide +kernel
theorem dX1_insert_69 : decode cX1_insert 69 = .ok (.aload_n 0, 1) := by decide +kernel
theorem dX1_insert_70 : decode cX1_insert 70 = .ok (.aload_n 0, 1) := by decide +kernel
theorem dX1_insert_71 : decode cX1_insert 71 = .ok (.getfield 25, 3) := by decide +kernel
theorem dX1_insert_74 : decode cX1_insert 74 = .ok (.lload 7, 2) := by decide +kernel
theorem dX1_insert_76 : decode cX1_insert 76 = .ok (.land, 1) := by decide +kernel
theorem dX1_insert_77 : decode cX1_insert 77 = .ok (.lload 11, 2) := by decide +kernel
theorem dX1_insert_79 : decode cX1_insert 79 = .ok (.iload_n 2, 1) := by decide +kernel
theorem dX1_insert_80 : decode cX1_insert 80 = .ok (.invokestatic 102, 3) := by decide +kernel
theorem dX1_insert_83 : decode cX1_insert 83 = .ok (.lor, 1) := by decide +kernel
theorem dX1_insert_84 : decode cX1_insert 84 = .ok (.lload_n 3, 1) := by decide +kernel
theorem dX1_insert_85 : decode cX1_insert 85 = .ok (.iload_n 1, 1) := by decide +kernel
theorem dX1_insert_86 : decode cX1_insert 86 = .ok (.invokestatic 102, 3) := by decide +kernel
theorem dX1_insert_89 : decode cX1_insert 89 = .ok (.lor, 1) := by decide +kernel
theorem dX1_insert_90 : decode cX1_insert 90 = .ok (.putfield 25, 3) := by decide +kernel
theorem dX1_insert_93 : decode cX1_insert 93 = .ok (.aload_n 0, 1) := by decide +kernel
theorem dX1_insert_94 : decode cX1_insert 94 = .ok (.dup, 1) := by decide +kernel
theorem dX1_insert_95 : decode cX1_insert 95 = .ok (.getfield 21, 3) := by decide +kernel
theorem dX1_insert_98 : decode cX1_insert 98 = .ok (.iload_n 2, 1) := by decide +kernel
theorem dX1_insert_99 : decode cX1_insert 99 = .ok (.iadd, 1) := by decide +kernel
theorem dX1_insert_100 : decode cX1_insert 100 = .ok (.putfield 21, 3) := by decide +kernel
theorem dX1_insert_103 : decode cX1_insert 103 = .ok (.aload_n 0, 1) := by decide +kernel
theorem dX1_insert_104 : decode cX1_insert 104 = .ok (.iload_n 1, 1) := by decide +kernel
theorem dX1_insert_105 : decode cX1_insert 105 = .ok (.invokevirtual 95, 3) := by decide +kernel
theorem dX1_insert_108 : decode cX1_insert 108 = .ok (.return_, 1) := by decide +kernel
theorem dX1_become_0 : decode cX1_become 0 = .ok (.aload_n 0, 1) := by decide +kernel
theorem dX1_become_1 : decode cX1_become 1 = .ok (.aload_n 1, 1) := by decide +kernel
theorem dX1_become_2 : decode cX1_become 2 = .ok (.getfield 25, 3) := by decide +kernel
theorem dX1_become_5 : decode cX1_become 5 = .ok (.putfield 25, 3) := by decide +kernel
theorem dX1_become_8 : decode cX1_become 8 = .ok (.aload_n 0, 1) := by decide +kernel
theorem dX1_become_9 : decode cX1_become 9 = .ok (.aload_n 1, 1) := by decide +kernel
theorem dX1_become_10 : decode cX1_become 10 = .ok (.getfield 29, 3) := by decide +kernel
theorem dX1_become_13 : decode cX1_become 13 = .ok (.putfield 29, 3) := by decide +kernel
theorem dX1_become_16 : decode cX1_become 16 = .ok (.aload_n 0, 1) := by decide +kernel
theorem dX1_become_17 : decode cX1_become 17 = .ok (.aload_n 1, 1) := by decide +kernel
theorem dX1_become_18 : decode cX1_become 18 = .ok (.getfield 21, 3) := by decide +kernel
theorem dX1_become_21 : decode cX1_become 21 = .ok (.putfield 21, 3) := by decide +kernel
theorem dX1_become_24 : decode cX1_become 24 = .ok (.aload_n 1, 1) := by decide +kernel
theorem dX1_become_25 : decode cX1_become 25 = .ok (.getfield 9, 3) := by decide +kernel
theorem dX1_become_28 : decode cX1_become 28 = .ok (.iconst 0, 1) := by decide +kernel
theorem dX1_become_29 : decode cX1_become 29 = .ok (.aload_n 0, 1) := by decide +kernel
theorem dX1_become_30 : decode cX1_become 30 = .ok (.getfield 9, 3) := by decide +kernel
theorem dX1_become_33 : decode cX1_become 33 = .ok (.iconst 0, 1) := by decide +kernel
theorem dX1_become_34 : decode cX1_become 34 = .ok (.bipush 8, 2) := by decide +kernel
theorem dX1_become_36 : decode cX1_become 36 = .ok (.invokestatic 105, 3) := by decide +kernel
theorem dX1_become_39 : decode cX1_become 39 = .ok (.aload_n 1, 1) := by decide +kernel
theorem dX1_become_40 : decode cX1_become 40 = .ok (.getfield 15, 3) := by decide +kernel
theorem dX1_become_43 : decode cX1_become 43 = .ok (.iconst 0, 1) := by decide +kernel
theorem dX1_become_44 : decode cX1_become 44 = .ok (.aload_n 0, 1) := by decide +kernel
theorem dX1_become_45 : decode cX1_become 45 = .ok (.getfield 15, 3) := by decide +kernel
theorem dX1_become_48 : decode cX1_become 48 = .ok (.iconst 0, 1) := by decide +kernel
theorem dX1_become_49 : decode cX1_become 49 = .ok (.bipush 8, 2) := by decide +kernel
theorem dX1_become_51 : decode cX1_become 51 = .ok (.invokestatic 105, 3) := by decide +kernel
theorem dX1_become_54 : decode cX1_become 54 = .ok (.aload_n 1, 1) := by decide +kernel
theorem dX1_become_55 : decode cX1_become 55 = .ok (.getfield 18, 3) := by decide +kernel
theorem dX1_become_58 : decode cX1_become 58 = .ok (.iconst 0, 1) := by decide +kernel
theorem dX1_become_59 : decode cX1_become 59 = .ok (.aload_n 0, 1) := by decide +kernel
theorem dX1_become_60 : decode cX1_become 60 = .ok (.getfield 18, 3) := by decide +kernel
theorem dX1_become_63 : decode cX1_become 63 = .ok (.iconst 0, 1) := by decide +kernel
theorem dX1_become_64 : decode cX1_become 64 = .ok (.bipush 8, 2) := by decide +kernel
theorem dX1_become_66 : decode cX1_become 66 = .ok (.invokestatic 105, 3) := by decide +kernel
theorem dX1_become_69 : decode cX1_become 69 = .ok (.return_, 1) := by decide +kernel
set_option maxRecDepth 20000 in
theorem ggX1_summarise_X1_summariseBlock : GoodIn wsX1_summarise wsX1_summariseBlock := goodIn_r _ [5, 6, 7, 8, 9, 10, 11, 12, 13, 14, 15, 16, 17, 18, 19, 4, 20, 21, 22, 23, 24, 25, 26, 27, 28] rfl (by decide +kernel)
set_option maxRecDepth 20000 in
theorem gX1_summarise_X1_summariseBlock : GoodIn wsX1_summarise (wsV RX1 111 RX1 yX1_summariseBlock wsX1_summariseBlock) := goodIn_app (goodIn_of _ (by decide +kernel)) ggX1_summarise_X1_summariseBlock
theorem dX1_summarise_0 : decode cX1_summarise 0 = .ok (.iload_n 1, 1) := by decide +kernel
theorem dX1_summarise_1 : decode cX1_summarise 1 = .ok (.bipush 16, 2) := by decide +kernel
theorem dX1_summarise_3 : decode cX1_summarise 3 = .ok (.idiv, 1) := by decide +kernel
theorem dX1_summarise_4 : decode cX1_summarise 4 = .ok (.istore_n 2, 1) := by decide +kernel
theorem dX1_summarise_5 : decode cX1_summarise 5 = .ok (.iload_n 2, 1) := by decide +kernel
theorem dX1_summarise_6 : decode cX1_summarise 6 = .ok (.bipush 8, 2) := by decide +kernel
theorem dX1_summarise_8 : decode cX1_summarise 8 = .ok (.if_icmp .ge 14, 3) := by decide +kernel
theorem dX1_summarise_11 : decode cX1_summarise 11 = .ok (.aload_n 0, 1) := by decide +kernel
theorem dX1_summarise_12 : decode cX1_summarise 12 = .ok (.iload_n 2, 1) := by decide +kernel
theorem dX1_summarise_13 : decode cX1_summarise 13 = .ok (.invokevirtual 111, 3) := by decide +kernel
theorem dX1_summarise_16 : decode cX1_summarise 16 = .ok (.iinc 2 1, 3) := by decide +kernel
theorem dX1_summarise_19 : decode cX1_summarise 19 = .ok (.goto (-14), 3) := by decide +kernel
theorem dX1_summarise_22 : decode cX1_summarise 22 = .ok (.return_, 1) := by decide +kernel
set_option maxRecDepth 20000 in
theorem ggX1_summariseBlock_X1_stepAt : GoodIn wsX1_summariseBlock wsX1_stepAt := goodIn_r _ [16, 17, 18, 19, 20, 21, 22, 23, 24] rfl (by decide +kernel)
set_option maxRecDepth 20000 in
theorem gX1_summariseBlock_X1_stepAt : GoodIn wsX1_summariseBlock (wsV RX1 74 RX1 yX1_stepAt wsX1_stepAt) := goodIn_app (goodIn_of _ (by decide +kernel)) ggX1_summariseBlock_X1_stepAt
theorem dX1_summariseBlock_0 : decode cX1_summariseBlock 0 = .ok (.iconst 0, 1) := by decide +kernel
theorem dX1_summariseBlock_1 : decode cX1_summariseBlock 1 = .ok (.istore_n 2, 1) := by decide +kernel
theorem dX1_summariseBlock_2 : decode cX1_summariseBlock 2 = .ok (.bipush 16, 2) := by decide +kernel
theorem dX1_summariseBlock_4 : decode cX1_summariseBlock 4 = .ok (.istore_n 3, 1) := by decide +kernel
theorem dX1_summariseBlock_5 : decode cX1_summariseBlock 5 = .ok (.bipush (-16), 2) := by decide +kernel
theorem dX1_summariseBlock_7 : decode cX1_summariseBlock 7 = .ok (.istore 4, 2) := by decide +kernel
theorem dX1_summariseBlock_9 : decode cX1_summariseBlock 9 = .ok (.aload_n 0, 1) := by decide +kernel
theorem dX1_summariseBlock_10 : decode cX1_summariseBlock 10 = .ok (.getfield 21, 3) := by decide +kernel
theorem dX1_summariseBlock_13 : decode cX1_summariseBlock 13 = .ok (.bipush 16, 2) := by decide +kernel
theorem dX1_summariseBlock_15 : decode cX1_summariseBlock 15 = .ok (.iload_n 1, 1) := by decide +kernel
theorem dX1_summariseBlock_16 : decode cX1_summariseBlock 16 = .ok (.imul, 1) := by decide +kernel
theorem dX1_summariseBlock_17 : decode cX1_summariseBlock 17 = .ok (.bipush 16, 2) := by decide +kernel
theorem dX1_summariseBlock_19 : decode cX1_summariseBlock 19 = .ok (.iadd, 1) := by decide +kernel
theorem dX1_summariseBlock_20 : decode cX1_summariseBlock 20 = .ok (.invokestatic 92, 3) := by decide +kernel
theorem dX1_summariseBlock_23 : decode cX1_summariseBlock 23 = .ok (.istore 5, 2) := by decide +kernel
theorem dX1_summariseBlock_25 : decode cX1_summariseBlock 25 = .ok (.bipush 16, 2) := by decide +kernel
theorem dX1_summariseBlock_27 : decode cX1_summariseBlock 27 = .ok (.iload_n 1, 1) := by decide +kernel
theorem dX1_summariseBlock_28 : decode cX1_summariseBlock 28 = .ok (.imul, 1) := by decide +kernel
theorem dX1_summariseBlock_29 : decode cX1_summariseBlock 29 = .ok (.istore 6, 2) := by decide +kernel
theorem dX1_summariseBlock_31 : decode cX1_summariseBlock 31 = .ok (.iload 6, 2) := by decide +kernel
theorem dX1_summariseBlock_33 : decode cX1_summariseBlock 33 = .ok (.iload 5, 2) := by decide +kernel
theorem dX1_summariseBlock_35 : decode cX1_summariseBlock 35 = .ok (.if_icmp .ge 32, 3) := by decide +kernel
theorem dX1_summariseBlock_38 : decode cX1_summariseBlock 38 = .ok (.iload_n 2, 1) := by decide +kernel
theorem dX1_summariseBlock_39 : decode cX1_summariseBlock 39 = .ok (.aload_n 0, 1) := by decide +kernel
theorem dX1_summariseBlock_40 : decode cX1_summariseBlock 40 = .ok (.iload 6, 2) := by decide +kernel
theorem dX1_summariseBlock_42 : decode cX1_summariseBlock 42 = .ok (.invokevirtual 74, 3) := by decide +kernel
theorem dX1_summariseBlock_45 : decode cX1_summariseBlock 45 = .ok (.iadd, 1) := by decide +kernel
theorem dX1_summariseBlock_46 : decode cX1_summariseBlock 46 = .ok (.istore_n 2, 1) := by decide +kernel
theorem dX1_summariseBlock_47 : decode cX1_summariseBlock 47 = .ok (.iload_n 3, 1) := by decide +kernel
theorem dX1_summariseBlock_48 : decode cX1_summariseBlock 48 = .ok (.iload_n 2, 1) := by decide +kernel
theorem dX1_summariseBlock_49 : decode cX1_summariseBlock 49 = .ok (.invokestatic 92, 3) := by decide +kernel
theorem dX1_summariseBlock_52 : decode cX1_summariseBlock 52 = .ok (.istore_n 3, 1) := by decide +kernel
theorem dX1_summariseBlock_53 : decode cX1_summariseBlock 53 = .ok (.iload 4, 2) := by decide +kernel
theorem dX1_summariseBlock_55 : decode cX1_summariseBlock 55 = .ok (.iload_n 2, 1) := by decide +kernel
theorem dX1_summariseBlock_56 : decode cX1_summariseBlock 56 = .ok (.invokestatic 87, 3) := by decide +kernel
theorem dX1_summariseBlock_59 : decode cX1_summariseBlock 59 = .ok (.istore 4, 2) := by decide +kernel
theorem dX1_summariseBlock_61 : decode cX1_summariseBlock 61 = .ok (.iinc 6 1, 3) := by decide +kernel
theorem dX1_summariseBlock_64 : decode cX1_summariseBlock 64 = .ok (.goto (-33), 3) := by decide +kernel
theorem dX1_summariseBlock_67 : decode cX1_summariseBlock 67 = .ok (.aload_n 0, 1) := by decide +kernel
theorem dX1_summariseBlock_68 : decode cX1_summariseBlock 68 = .ok (.getfield 9, 3) := by decide +kernel
theorem dX1_summariseBlock_71 : decode cX1_summariseBlock 71 = .ok (.iload_n 1, 1) := by decide +kernel
theorem dX1_summariseBlock_72 : decode cX1_summariseBlock 72 = .ok (.iload_n 2, 1) := by decide +kernel
theorem dX1_summariseBlock_73 : decode cX1_summariseBlock 73 = .ok (.iastore, 1) := by decide +kernel
theorem dX1_summariseBlock_74 : decode cX1_summariseBlock 74 = .ok (.aload_n 0, 1) := by decide +kernel
theorem dX1_summariseBlock_75 : decode cX1_summariseBlock 75 = .ok (.getfield 15, 3) := by decide +kernel
theorem dX1_summariseBlock_78 : decode cX1_summariseBlock 78 = .ok (.iload_n 1, 1) := by decide +kernel
theorem dX1_summariseBlock_79 : decode cX1_summariseBlock 79 = .ok (.iload_n 3, 1) := by decide +kernel
theorem dX1_summariseBlock_80 : decode cX1_summariseBlock 80 = .ok (.iastore, 1) := by decide +kernel
theorem dX1_summariseBlock_81 : decode cX1_summariseBlock 81 = .ok (.aload_n 0, 1) := by decide +kernel
theorem dX1_summariseBlock_82 : decode cX1_summariseBlock 82 = .ok (.getfield 18, 3) := by decide +kernel
theorem dX1_summariseBlock_85 : decode cX1_summariseBlock 85 = .ok (.iload_n 1, 1) := by decide +kernel
theorem dX1_summariseBlock_86 : decode cX1_summariseBlock 86 = .ok (.iload 4, 2) := by decide +kernel
theorem dX1_summariseBlock_88 : decode cX1_summariseBlock 88 = .ok (.iastore, 1) := by decide +kernel
theorem dX1_summariseBlock_89 : decode cX1_summariseBlock 89 = .ok (.return_, 1) := by decide +kernel
