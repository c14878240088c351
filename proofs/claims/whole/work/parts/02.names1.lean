set_option maxRecDepth 20000 in
theorem ggX4_deepestOf_X1_opensAhead : GoodIn wsX4_deepestOf wsX1_opensAhead := goodIn_r _ [95, 54, 55, 56, 10, 57, 16, 19, 20, 21, 22, 23, 24, 28, 29, 30, 31, 32, 33, 34, 99, 100, 101, 102, 103, 104] (by decide +kernel) (by decide +kernel)
set_option maxRecDepth 20000 in
theorem gX4_deepestOf_X1_opensAhead : GoodIn wsX4_deepestOf (wsV RX4 47 RX1 yX1_opensAhead wsX1_opensAhead) := goodIn_app (goodIn_of _ (by decide +kernel)) ggX4_deepestOf_X1_opensAhead
theorem dX4_deepestOf_0 : decode cX4_deepestOf 0 = .ok (.aload_n 0, 1) := by decide +kernel
theorem dX4_deepestOf_1 : decode cX4_deepestOf 1 = .ok (.iload_n 1, 1) := by decide +kernel
theorem dX4_deepestOf_2 : decode cX4_deepestOf 2 = .ok (.invokevirtual 37, 3) := by decide +kernel
theorem dX4_deepestOf_5 : decode cX4_deepestOf 5 = .ok (.istore_n 2, 1) := by decide +kernel
theorem dX4_deepestOf_6 : decode cX4_deepestOf 6 = .ok (.aload_n 0, 1) := by decide +kernel
theorem dX4_deepestOf_7 : decode cX4_deepestOf 7 = .ok (.getfield 12, 3) := by decide +kernel
theorem dX4_deepestOf_10 : decode cX4_deepestOf 10 = .ok (.aload_n 0, 1) := by decide +kernel
theorem dX4_deepestOf_11 : decode cX4_deepestOf 11 = .ok (.getfield 12, 3) := by decide +kernel
theorem dX4_deepestOf_14 : decode cX4_deepestOf 14 = .ok (.iload_n 2, 1) := by decide +kernel
theorem dX4_deepestOf_15 : decode cX4_deepestOf 15 = .ok (.aload_n 0, 1) := by decide +kernel
theorem dX4_deepestOf_16 : decode cX4_deepestOf 16 = .ok (.getfield 12, 3) := by decide +kernel
theorem dX4_deepestOf_19 : decode cX4_deepestOf 19 = .ok (.iload_n 2, 1) := by decide +kernel
theorem dX4_deepestOf_20 : decode cX4_deepestOf 20 = .ok (.aload_n 0, 1) := by decide +kernel
theorem dX4_deepestOf_21 : decode cX4_deepestOf 21 = .ok (.getfield 12, 3) := by decide +kernel
theorem dX4_deepestOf_24 : decode cX4_deepestOf 24 = .ok (.iload_n 2, 1) := by decide +kernel
theorem dX4_deepestOf_25 : decode cX4_deepestOf 25 = .ok (.invokevirtual 41, 3) := by decide +kernel
theorem dX4_deepestOf_28 : decode cX4_deepestOf 28 = .ok (.iconst 1, 1) := by decide +kernel
theorem dX4_deepestOf_29 : decode cX4_deepestOf 29 = .ok (.invokevirtual 78, 3) := by decide +kernel
theorem dX4_deepestOf_32 : decode cX4_deepestOf 32 = .ok (.invokevirtual 82, 3) := by decide +kernel
theorem dX4_deepestOf_35 : decode cX4_deepestOf 35 = .ok (.iconst 1, 1) := by decide +kernel
theorem dX4_deepestOf_36 : decode cX4_deepestOf 36 = .ok (.isub, 1) := by decide +kernel
theorem dX4_deepestOf_37 : decode cX4_deepestOf 37 = .ok (.invokevirtual 47, 3) := by decide +kernel
theorem dX4_deepestOf_40 : decode cX4_deepestOf 40 = .ok (.ireturn, 1) := by decide +kernel
set_option maxRecDepth 20000 in
theorem ggX4_isAbove_X4_nodesOf : GoodIn wsX4_isAbove wsX4_nodesOf := goodIn_r _ [5, 6, 7, 8, 9, 4, 10, 11, 12, 13, 14, 15, 16, 17, 18, 19, 20, 21, 22, 23, 24, 25, 26, 27, 28, 29, 30, 31, 32, 33, 34, 35, 36, 37, 38, 39, 40, 41, 42, 43, 44, 45, 46, 47, 48, 49, 50, 51, 52, 53, 54, 55, 56, 57, 58, 59, 60, 61, 62, 63, 64, 65, 66, 67, 68, 69, 70, 71, 72, 73, 74, 75, 76, 77, 78, 79, 80, 81, 82, 83, 84, 85, 86, 87, 88, 89] (by decide +kernel) (by decide +kernel)
set_option maxRecDepth 20000 in
theorem gX4_isAbove_X4_nodesOf : GoodIn wsX4_isAbove (wsV RX4 85 RX4 yX4_nodesOf wsX4_nodesOf) := goodIn_app (goodIn_of _ (by decide +kernel)) ggX4_isAbove_X4_nodesOf
theorem dX4_isAbove_0 : decode cX4_isAbove 0 = .ok (.iload_n 2, 1) := by decide +kernel
theorem dX4_isAbove_1 : decode cX4_isAbove 1 = .ok (.iload_n 1, 1) := by decide +kernel
theorem dX4_isAbove_2 : decode cX4_isAbove 2 = .ok (.if_icmp .lt 18, 3) := by decide +kernel
theorem dX4_isAbove_5 : decode cX4_isAbove 5 = .ok (.iload_n 2, 1) := by decide +kernel
theorem dX4_isAbove_6 : decode cX4_isAbove 6 = .ok (.iload_n 1, 1) := by decide +kernel
theorem dX4_isAbove_7 : decode cX4_isAbove 7 = .ok (.aload_n 0, 1) := by decide +kernel
theorem dX4_isAbove_8 : decode cX4_isAbove 8 = .ok (.iload_n 1, 1) := by decide +kernel
theorem dX4_isAbove_9 : decode cX4_isAbove 9 = .ok (.invokevirtual 85, 3) := by decide +kernel
theorem dX4_isAbove_12 : decode cX4_isAbove 12 = .ok (.iadd, 1) := by decide +kernel
theorem dX4_isAbove_13 : decode cX4_isAbove 13 = .ok (.if_icmp .ge 7, 3) := by decide +kernel
theorem dX4_isAbove_16 : decode cX4_isAbove 16 = .ok (.iconst 1, 1) := by decide +kernel
theorem dX4_isAbove_17 : decode cX4_isAbove 17 = .ok (.goto 4, 3) := by decide +kernel
theorem dX4_isAbove_20 : decode cX4_isAbove 20 = .ok (.iconst 0, 1) := by decide +kernel
theorem dX4_isAbove_21 : decode cX4_isAbove 21 = .ok (.ireturn, 1) := by decide +kernel
set_option maxRecDepth 20000 in
theorem ggX4_haveLikeRows_X4_nodesOf : GoodIn wsX4_haveLikeRows wsX4_nodesOf := goodIn_r _ [6, 1, 7, 8, 9, 5, 10, 11, 12, 13, 14, 15, 16, 17, 18, 19, 20, 21, 22, 23, 24, 25, 26, 27, 28, 29, 30, 31, 32, 33, 34, 35, 36, 37, 38, 39, 40, 41, 42, 43, 44, 45, 46, 47, 48, 49, 50, 51, 52, 53, 54, 55, 56, 57, 58, 59, 60, 61, 62, 63, 64, 65, 66, 67, 68, 69, 70, 71, 72, 73, 74, 75, 76, 77, 78, 79, 80, 89, 90, 91, 92, 93, 94, 95, 96, 97] (by decide +kernel) (by decide +kernel)
set_option maxRecDepth 20000 in
theorem gX4_haveLikeRows_X4_nodesOf : GoodIn wsX4_haveLikeRows (wsV RX4 85 RX4 yX4_nodesOf wsX4_nodesOf) := goodIn_app (goodIn_of _ (by decide +kernel)) ggX4_haveLikeRows_X4_nodesOf
set_option maxRecDepth 20000 in
theorem ggX4_haveLikeRows_X4_openOf : GoodIn wsX4_haveLikeRows wsX4_openOf := goodIn_r _ [10, 1, 11, 12, 13, 14, 15, 16, 17, 18, 19, 20, 21, 22, 23, 24, 25, 26, 27, 28, 29, 30, 31, 32, 33, 34, 35, 36, 37, 38, 39, 40, 41, 42, 43, 44, 45, 46, 47, 48, 49, 89, 90, 91, 92, 93, 94, 95, 96, 97] (by decide +kernel) (by decide +kernel)
set_option maxRecDepth 20000 in
theorem gX4_haveLikeRows_X4_openOf : GoodIn wsX4_haveLikeRows (wsV RX4 37 RX4 yX4_openOf wsX4_openOf) := goodIn_app (goodIn_of _ (by decide +kernel)) ggX4_haveLikeRows_X4_openOf
set_option maxRecDepth 20000 in
theorem ggX4_haveLikeRows_X1_takenLow : GoodIn wsX4_haveLikeRows wsX1_takenLow := goodIn_r _ [84, 20, 23, 29, 30, 26, 31, 24, 25, 27, 28, 92, 93, 94, 95, 96, 97] (by decide +kernel) (by decide +kernel)
set_option maxRecDepth 20000 in
theorem gX4_haveLikeRows_X1_takenLow : GoodIn wsX4_haveLikeRows (wsV RX4 88 RX1 yX1_takenLow wsX1_takenLow) := goodIn_app (goodIn_of _ (by decide +kernel)) ggX4_haveLikeRows_X1_takenLow
set_option maxRecDepth 20000 in
theorem ggX4_haveLikeRows_X1_takenHigh : GoodIn wsX4_haveLikeRows wsX1_takenHigh := goodIn_r _ [88, 23, 47, 48, 26, 49, 24, 25, 27, 28, 92, 93, 94, 95, 96, 97] (by decide +kernel) (by decide +kernel)
set_option maxRecDepth 20000 in
theorem gX4_haveLikeRows_X1_takenHigh : GoodIn wsX4_haveLikeRows (wsV RX4 92 RX1 yX1_takenHigh wsX1_takenHigh) := goodIn_app (goodIn_of _ (by decide +kernel)) ggX4_haveLikeRows_X1_takenHigh
theorem dX4_haveLikeRows_0 : decode cX4_haveLikeRows 0 = .ok (.iconst 2, 1) := by decide +kernel
theorem dX4_haveLikeRows_1 : decode cX4_haveLikeRows 1 = .ok (.aload_n 0, 1) := by decide +kernel
theorem dX4_haveLikeRows_2 : decode cX4_haveLikeRows 2 = .ok (.iload_n 1, 1) := by decide +kernel
theorem dX4_haveLikeRows_3 : decode cX4_haveLikeRows 3 = .ok (.invokevirtual 85, 3) := by decide +kernel
theorem dX4_haveLikeRows_6 : decode cX4_haveLikeRows 6 = .ok (.imul, 1) := by decide +kernel
theorem dX4_haveLikeRows_7 : decode cX4_haveLikeRows 7 = .ok (.istore_n 3, 1) := by decide +kernel
theorem dX4_haveLikeRows_8 : decode cX4_haveLikeRows 8 = .ok (.iload_n 3, 1) := by decide +kernel
theorem dX4_haveLikeRows_9 : decode cX4_haveLikeRows 9 = .ok (.iconst 2, 1) := by decide +kernel
theorem dX4_haveLikeRows_10 : decode cX4_haveLikeRows 10 = .ok (.aload_n 0, 1) := by decide +kernel
theorem dX4_haveLikeRows_11 : decode cX4_haveLikeRows 11 = .ok (.iload_n 2, 1) := by decide +kernel
theorem dX4_haveLikeRows_12 : decode cX4_haveLikeRows 12 = .ok (.invokevirtual 85, 3) := by decide +kernel
theorem dX4_haveLikeRows_15 : decode cX4_haveLikeRows 15 = .ok (.imul, 1) := by decide +kernel
theorem dX4_haveLikeRows_16 : decode cX4_haveLikeRows 16 = .ok (.if_icmp .eq 5, 3) := by decide +kernel
theorem dX4_haveLikeRows_19 : decode cX4_haveLikeRows 19 = .ok (.iconst 0, 1) := by decide +kernel
theorem dX4_haveLikeRows_20 : decode cX4_haveLikeRows 20 = .ok (.ireturn, 1) := by decide +kernel
theorem dX4_haveLikeRows_21 : decode cX4_haveLikeRows 21 = .ok (.aload_n 0, 1) := by decide +kernel
theorem dX4_haveLikeRows_22 : decode cX4_haveLikeRows 22 = .ok (.iload_n 1, 1) := by decide +kernel
theorem dX4_haveLikeRows_23 : decode cX4_haveLikeRows 23 = .ok (.invokevirtual 37, 3) := by decide +kernel
theorem dX4_haveLikeRows_26 : decode cX4_haveLikeRows 26 = .ok (.istore 4, 2) := by decide +kernel
theorem dX4_haveLikeRows_28 : decode cX4_haveLikeRows 28 = .ok (.aload_n 0, 1) := by decide +kernel
theorem dX4_haveLikeRows_29 : decode cX4_haveLikeRows 29 = .ok (.iload_n 2, 1) := by decide +kernel
theorem dX4_haveLikeRows_30 : decode cX4_haveLikeRows 30 = .ok (.invokevirtual 37, 3) := by decide +kernel
theorem dX4_haveLikeRows_33 : decode cX4_haveLikeRows 33 = .ok (.istore 5, 2) := by decide +kernel
theorem dX4_haveLikeRows_35 : decode cX4_haveLikeRows 35 = .ok (.aload_n 0, 1) := by decide +kernel
theorem dX4_haveLikeRows_36 : decode cX4_haveLikeRows 36 = .ok (.getfield 12, 3) := by decide +kernel
theorem dX4_haveLikeRows_39 : decode cX4_haveLikeRows 39 = .ok (.iload 4, 2) := by decide +kernel
theorem dX4_haveLikeRows_41 : decode cX4_haveLikeRows 41 = .ok (.iload_n 3, 1) := by decide +kernel
theorem dX4_haveLikeRows_42 : decode cX4_haveLikeRows 42 = .ok (.invokevirtual 88, 3) := by decide +kernel
theorem dX4_haveLikeRows_45 : decode cX4_haveLikeRows 45 = .ok (.aload_n 0, 1) := by decide +kernel
theorem dX4_haveLikeRows_46 : decode cX4_haveLikeRows 46 = .ok (.getfield 12, 3) := by decide +kernel
theorem dX4_haveLikeRows_49 : decode cX4_haveLikeRows 49 = .ok (.iload 5, 2) := by decide +kernel
theorem dX4_haveLikeRows_51 : decode cX4_haveLikeRows 51 = .ok (.iload_n 3, 1) := by decide +kernel
theorem dX4_haveLikeRows_52 : decode cX4_haveLikeRows 52 = .ok (.invokevirtual 88, 3) := by decide +kernel
theorem dX4_haveLikeRows_55 : decode cX4_haveLikeRows 55 = .ok (.lcmp, 1) := by decide +kernel
theorem dX4_haveLikeRows_56 : decode cX4_haveLikeRows 56 = .ok (.ifCond .ne 31, 3) := by decide +kernel
theorem dX4_haveLikeRows_59 : decode cX4_haveLikeRows 59 = .ok (.aload_n 0, 1) := by decide +kernel
theorem dX4_haveLikeRows_60 : decode cX4_haveLikeRows 60 = .ok (.getfield 12, 3) := by decide +kernel
theorem dX4_haveLikeRows_63 : decode cX4_haveLikeRows 63 = .ok (.iload 4, 2) := by decide +kernel
theorem dX4_haveLikeRows_65 : decode cX4_haveLikeRows 65 = .ok (.iload_n 3, 1) := by decide +kernel
theorem dX4_haveLikeRows_66 : decode cX4_haveLikeRows 66 = .ok (.invokevirtual 92, 3) := by decide +kernel
theorem dX4_haveLikeRows_69 : decode cX4_haveLikeRows 69 = .ok (.aload_n 0, 1) := by decide +kernel
theorem dX4_haveLikeRows_70 : decode cX4_haveLikeRows 70 = .ok (.getfield 12, 3) := by decide +kernel
theorem dX4_haveLikeRows_73 : decode cX4_haveLikeRows 73 = .ok (.iload 5, 2) := by decide +kernel
theorem dX4_haveLikeRows_75 : decode cX4_haveLikeRows 75 = .ok (.iload_n 3, 1) := by decide +kernel
theorem dX4_haveLikeRows_76 : decode cX4_haveLikeRows 76 = .ok (.invokevirtual 92, 3) := by decide +kernel
theorem dX4_haveLikeRows_79 : decode cX4_haveLikeRows 79 = .ok (.lcmp, 1) := by decide +kernel
theorem dX4_haveLikeRows_80 : decode cX4_haveLikeRows 80 = .ok (.ifCond .ne 7, 3) := by decide +kernel
theorem dX4_haveLikeRows_83 : decode cX4_haveLikeRows 83 = .ok (.iconst 1, 1) := by decide +kernel
theorem dX4_haveLikeRows_84 : decode cX4_haveLikeRows 84 = .ok (.goto 4, 3) := by decide +kernel
theorem dX4_haveLikeRows_87 : decode cX4_haveLikeRows 87 = .ok (.iconst 0, 1) := by decide +kernel
theorem dX4_haveLikeRows_88 : decode cX4_haveLikeRows 88 = .ok (.ireturn, 1) := by decide +kernel
set_option maxRecDepth 20000 in
theorem ggX4_meetingOf_X4_openOf : GoodIn wsX4_meetingOf wsX4_openOf := goodIn_r _ [13, 8, 14, 15, 16, 17, 18, 19, 20, 21, 22, 23, 24, 25, 26, 27, 28, 29, 30, 31, 32, 33, 34, 35, 36, 37, 38, 39, 40, 41, 42, 43, 44, 45, 46, 47, 48, 49, 50, 51, 52, 82, 83, 84, 85, 86, 87, 88, 89, 90] (by decide +kernel) (by decide +kernel)
set_option maxRecDepth 20000 in
theorem gX4_meetingOf_X4_openOf : GoodIn wsX4_meetingOf (wsV RX4 37 RX4 yX4_openOf wsX4_openOf) := goodIn_app (goodIn_of _ (by decide +kernel)) ggX4_meetingOf_X4_openOf
set_option maxRecDepth 20000 in
theorem ggX4_meetingOf_X1_extremeIn : GoodIn wsX4_meetingOf wsX1_extremeIn := goodIn_r _ [56, 57, 58, 59, 60, 6, 3, 7, 61, 2, 4, 62, 63, 64, 17, 65, 23, 26, 27, 28, 29, 30, 31, 35, 36, 37, 38, 39, 40, 41, 66, 67, 68, 69, 85, 86, 87, 88, 89, 90] (by decide +kernel) (by decide +kernel)
set_option maxRecDepth 20000 in
theorem gX4_meetingOf_X1_extremeIn : GoodIn wsX4_meetingOf (wsV RX4 78 RX1 yX1_extremeIn wsX1_extremeIn) := goodIn_app (goodIn_of _ (by decide +kernel)) ggX4_meetingOf_X1_extremeIn
set_option maxRecDepth 20000 in
theorem ggX4_meetingOf_X1_searchBack : GoodIn wsX4_meetingOf wsX1_searchBack := goodIn_r _ [73, 59, 62, 63, 64, 17, 65, 23, 26, 27, 28, 29, 30, 31, 35, 36, 37, 38, 39, 40, 41, 66, 67, 68, 69, 74, 75, 76, 77, 58, 57, 85, 86, 87, 88, 89, 90] (by decide +kernel) (by decide +kernel)
set_option maxRecDepth 20000 in
theorem gX4_meetingOf_X1_searchBack : GoodIn wsX4_meetingOf (wsV RX4 56 RX1 yX1_searchBack wsX1_searchBack) := goodIn_app (goodIn_of _ (by decide +kernel)) ggX4_meetingOf_X1_searchBack
set_option maxRecDepth 20000 in
theorem ggX4_meetingOf_X1_opensAhead : GoodIn wsX4_meetingOf wsX1_opensAhead := goodIn_r _ [81, 62, 63, 64, 17, 65, 23, 26, 27, 28, 29, 30, 31, 35, 36, 37, 38, 39, 40, 41, 85, 86, 87, 88, 89, 90] (by decide +kernel) (by decide +kernel)
set_option maxRecDepth 20000 in
theorem gX4_meetingOf_X1_opensAhead : GoodIn wsX4_meetingOf (wsV RX4 47 RX1 yX1_opensAhead wsX1_opensAhead) := goodIn_app (goodIn_of _ (by decide +kernel)) ggX4_meetingOf_X1_opensAhead
theorem dX4_meetingOf_0 : decode cX4_meetingOf 0 = .ok (.aload_n 0, 1) := by decide +kernel
theorem dX4_meetingOf_1 : decode cX4_meetingOf 1 = .ok (.iload_n 1, 1) := by decide +kernel
theorem dX4_meetingOf_2 : decode cX4_meetingOf 2 = .ok (.iload_n 2, 1) := by decide +kernel
theorem dX4_meetingOf_3 : decode cX4_meetingOf 3 = .ok (.invokestatic 95, 3) := by decide +kernel
theorem dX4_meetingOf_6 : decode cX4_meetingOf 6 = .ok (.invokevirtual 37, 3) := by decide +kernel
theorem dX4_meetingOf_9 : decode cX4_meetingOf 9 = .ok (.iconst 1, 1) := by decide +kernel
theorem dX4_meetingOf_10 : decode cX4_meetingOf 10 = .ok (.iadd, 1) := by decide +kernel
theorem dX4_meetingOf_11 : decode cX4_meetingOf 11 = .ok (.istore_n 3, 1) := by decide +kernel
theorem dX4_meetingOf_12 : decode cX4_meetingOf 12 = .ok (.aload_n 0, 1) := by decide +kernel
theorem dX4_meetingOf_13 : decode cX4_meetingOf 13 = .ok (.iload_n 1, 1) := by decide +kernel
theorem dX4_meetingOf_14 : decode cX4_meetingOf 14 = .ok (.iload_n 2, 1) := by decide +kernel
theorem dX4_meetingOf_15 : decode cX4_meetingOf 15 = .ok (.invokestatic 100, 3) := by decide +kernel
theorem dX4_meetingOf_18 : decode cX4_meetingOf 18 = .ok (.invokevirtual 37, 3) := by decide +kernel
theorem dX4_meetingOf_21 : decode cX4_meetingOf 21 = .ok (.iconst 1, 1) := by decide +kernel
theorem dX4_meetingOf_22 : decode cX4_meetingOf 22 = .ok (.iadd, 1) := by decide +kernel
theorem dX4_meetingOf_23 : decode cX4_meetingOf 23 = .ok (.istore 4, 2) := by decide +kernel
theorem dX4_meetingOf_25 : decode cX4_meetingOf 25 = .ok (.aload_n 0, 1) := by decide +kernel
theorem dX4_meetingOf_26 : decode cX4_meetingOf 26 = .ok (.getfield 12, 3) := by decide +kernel
theorem dX4_meetingOf_29 : decode cX4_meetingOf 29 = .ok (.iload_n 3, 1) := by decide +kernel
theorem dX4_meetingOf_30 : decode cX4_meetingOf 30 = .ok (.iload 4, 2) := by decide +kernel
theorem dX4_meetingOf_32 : decode cX4_meetingOf 32 = .ok (.iconst 0, 1) := by decide +kernel
theorem dX4_meetingOf_33 : decode cX4_meetingOf 33 = .ok (.invokevirtual 78, 3) := by decide +kernel
theorem dX4_meetingOf_36 : decode cX4_meetingOf 36 = .ok (.iconst 1, 1) := by decide +kernel
theorem dX4_meetingOf_37 : decode cX4_meetingOf 37 = .ok (.isub, 1) := by decide +kernel
theorem dX4_meetingOf_38 : decode cX4_meetingOf 38 = .ok (.istore 5, 2) := by decide +kernel
theorem dX4_meetingOf_40 : decode cX4_meetingOf 40 = .ok (.aload_n 0, 1) := by decide +kernel
theorem dX4_meetingOf_41 : decode cX4_meetingOf 41 = .ok (.getfield 12, 3) := by decide +kernel
theorem dX4_meetingOf_44 : decode cX4_meetingOf 44 = .ok (.aload_n 0, 1) := by decide +kernel
theorem dX4_meetingOf_45 : decode cX4_meetingOf 45 = .ok (.getfield 12, 3) := by decide +kernel
theorem dX4_meetingOf_48 : decode cX4_meetingOf 48 = .ok (.iload_n 3, 1) := by decide +kernel
theorem dX4_meetingOf_49 : decode cX4_meetingOf 49 = .ok (.iload 5, 2) := by decide +kernel
theorem dX4_meetingOf_51 : decode cX4_meetingOf 51 = .ok (.invokevirtual 56, 3) := by decide +kernel
theorem dX4_meetingOf_54 : decode cX4_meetingOf 54 = .ok (.invokevirtual 47, 3) := by decide +kernel
theorem dX4_meetingOf_57 : decode cX4_meetingOf 57 = .ok (.ireturn, 1) := by decide +kernel
set_option maxRecDepth 20000 in
theorem ggX4_firstOfDepth_X1_searchOn : GoodIn wsX4_firstOfDepth wsX1_searchOn := goodIn_r _ [6, 7, 8, 9, 10, 11, 5, 12, 13, 14, 15, 16, 17, 18, 19, 20, 21, 22, 23, 24, 25, 26, 27, 28, 29, 30, 31, 32, 33, 34, 35, 36, 44, 45, 46, 47, 48, 49] (by decide +kernel) (by decide +kernel)
set_option maxRecDepth 20000 in
theorem gX4_firstOfDepth_X1_searchOn : GoodIn wsX4_firstOfDepth (wsV RX4 53 RX1 yX1_searchOn wsX1_searchOn) := goodIn_app (goodIn_of _ (by decide +kernel)) ggX4_firstOfDepth_X1_searchOn
set_option maxRecDepth 20000 in
theorem ggX4_firstOfDepth_X1_opensAhead : GoodIn wsX4_firstOfDepth wsX1_opensAhead := goodIn_r _ [40, 9, 10, 11, 5, 12, 13, 14, 15, 16, 17, 18, 19, 20, 21, 22, 23, 24, 25, 26, 44, 45, 46, 47, 48, 49] (by decide +kernel) (by decide +kernel)
set_option maxRecDepth 20000 in
theorem gX4_firstOfDepth_X1_opensAhead : GoodIn wsX4_firstOfDepth (wsV RX4 47 RX1 yX1_opensAhead wsX1_opensAhead) := goodIn_app (goodIn_of _ (by decide +kernel)) ggX4_firstOfDepth_X1_opensAhead
theorem dX4_firstOfDepth_0 : decode cX4_firstOfDepth 0 = .ok (.aload_n 0, 1) := by decide +kernel
theorem dX4_firstOfDepth_1 : decode cX4_firstOfDepth 1 = .ok (.getfield 12, 3) := by decide +kernel
theorem dX4_firstOfDepth_4 : decode cX4_firstOfDepth 4 = .ok (.iload_n 2, 1) := by decide +kernel
theorem dX4_firstOfDepth_5 : decode cX4_firstOfDepth 5 = .ok (.iload_n 1, 1) := by decide +kernel
theorem dX4_firstOfDepth_6 : decode cX4_firstOfDepth 6 = .ok (.iconst 1, 1) := by decide +kernel
theorem dX4_firstOfDepth_7 : decode cX4_firstOfDepth 7 = .ok (.iadd, 1) := by decide +kernel
theorem dX4_firstOfDepth_8 : decode cX4_firstOfDepth 8 = .ok (.invokevirtual 53, 3) := by decide +kernel
theorem dX4_firstOfDepth_11 : decode cX4_firstOfDepth 11 = .ok (.istore_n 3, 1) := by decide +kernel
theorem dX4_firstOfDepth_12 : decode cX4_firstOfDepth 12 = .ok (.iload_n 3, 1) := by decide +kernel
theorem dX4_firstOfDepth_13 : decode cX4_firstOfDepth 13 = .ok (.bipush (-4), 2) := by decide +kernel
theorem dX4_firstOfDepth_15 : decode cX4_firstOfDepth 15 = .ok (.if_icmp .ne 8, 3) := by decide +kernel
theorem dX4_firstOfDepth_18 : decode cX4_firstOfDepth 18 = .ok (.bipush (-4), 2) := by decide +kernel
theorem dX4_firstOfDepth_20 : decode cX4_firstOfDepth 20 = .ok (.goto 13, 3) := by decide +kernel
theorem dX4_firstOfDepth_23 : decode cX4_firstOfDepth 23 = .ok (.aload_n 0, 1) := by decide +kernel
theorem dX4_firstOfDepth_24 : decode cX4_firstOfDepth 24 = .ok (.getfield 12, 3) := by decide +kernel
theorem dX4_firstOfDepth_27 : decode cX4_firstOfDepth 27 = .ok (.iload_n 3, 1) := by decide +kernel
theorem dX4_firstOfDepth_28 : decode cX4_firstOfDepth 28 = .ok (.iconst 1, 1) := by decide +kernel
theorem dX4_firstOfDepth_29 : decode cX4_firstOfDepth 29 = .ok (.isub, 1) := by decide +kernel
theorem dX4_firstOfDepth_30 : decode cX4_firstOfDepth 30 = .ok (.invokevirtual 47, 3) := by decide +kernel
theorem dX4_firstOfDepth_33 : decode cX4_firstOfDepth 33 = .ok (.ireturn, 1) := by decide +kernel
set_option maxRecDepth 20000 in
theorem ggX4_lastOfDepth_X1_searchBack : GoodIn wsX4_lastOfDepth wsX1_searchBack := goodIn_r _ [6, 7, 8, 9, 10, 5, 11, 12, 13, 14, 15, 16, 17, 18, 19, 20, 21, 22, 23, 24, 25, 26, 27, 28, 29, 30, 31, 32, 33, 34, 35, 63, 64, 65, 66, 67, 68] (by decide +kernel) (by decide +kernel)
set_option maxRecDepth 20000 in
theorem gX4_lastOfDepth_X1_searchBack : GoodIn wsX4_lastOfDepth (wsV RX4 56 RX1 yX1_searchBack wsX1_searchBack) := goodIn_app (goodIn_of _ (by decide +kernel)) ggX4_lastOfDepth_X1_searchBack
set_option maxRecDepth 20000 in
theorem ggX4_lastOfDepth_X4_nodeWithPlace : GoodIn wsX4_lastOfDepth wsX4_nodeWithPlace := goodIn_r _ [40, 1, 41, 42, 43, 5, 44, 12, 13, 45, 46, 47, 48, 49, 8, 9, 10, 11, 14, 15, 16, 17, 18, 19, 20, 21, 22, 23, 24, 25, 50, 51, 52, 53, 54, 7, 30, 31, 32, 33, 34, 35, 26, 27, 28, 29, 55, 3, 4, 6, 56, 57, 58, 59, 60, 61, 62, 63, 64, 65, 66, 67, 68] (by decide +kernel) (by decide +kernel)
set_option maxRecDepth 20000 in
theorem gX4_lastOfDepth_X4_nodeWithPlace : GoodIn wsX4_lastOfDepth (wsV RX4 62 RX4 yX4_nodeWithPlace wsX4_nodeWithPlace) := goodIn_app (goodIn_of _ (by decide +kernel)) ggX4_lastOfDepth_X4_nodeWithPlace
theorem dX4_lastOfDepth_0 : decode cX4_lastOfDepth 0 = .ok (.aload_n 0, 1) := by decide +kernel
theorem dX4_lastOfDepth_1 : decode cX4_lastOfDepth 1 = .ok (.getfield 12, 3) := by decide +kernel
theorem dX4_lastOfDepth_4 : decode cX4_lastOfDepth 4 = .ok (.iload_n 2, 1) := by decide +kernel
theorem dX4_lastOfDepth_5 : decode cX4_lastOfDepth 5 = .ok (.iload_n 1, 1) := by decide +kernel
theorem dX4_lastOfDepth_6 : decode cX4_lastOfDepth 6 = .ok (.iconst 1, 1) := by decide +kernel
theorem dX4_lastOfDepth_7 : decode cX4_lastOfDepth 7 = .ok (.iadd, 1) := by decide +kernel
theorem dX4_lastOfDepth_8 : decode cX4_lastOfDepth 8 = .ok (.invokevirtual 56, 3) := by decide +kernel
theorem dX4_lastOfDepth_11 : decode cX4_lastOfDepth 11 = .ok (.istore_n 3, 1) := by decide +kernel
theorem dX4_lastOfDepth_12 : decode cX4_lastOfDepth 12 = .ok (.iload_n 3, 1) := by decide +kernel
theorem dX4_lastOfDepth_13 : decode cX4_lastOfDepth 13 = .ok (.bipush (-4), 2) := by decide +kernel
theorem dX4_lastOfDepth_15 : decode cX4_lastOfDepth 15 = .ok (.if_icmp .ne 8, 3) := by decide +kernel
theorem dX4_lastOfDepth_18 : decode cX4_lastOfDepth 18 = .ok (.bipush (-4), 2) := by decide +kernel
theorem dX4_lastOfDepth_20 : decode cX4_lastOfDepth 20 = .ok (.goto 8, 3) := by decide +kernel
theorem dX4_lastOfDepth_23 : decode cX4_lastOfDepth 23 = .ok (.aload_n 0, 1) := by decide +kernel
theorem dX4_lastOfDepth_24 : decode cX4_lastOfDepth 24 = .ok (.iload_n 3, 1) := by decide +kernel
theorem dX4_lastOfDepth_25 : decode cX4_lastOfDepth 25 = .ok (.invokevirtual 62, 3) := by decide +kernel
theorem dX4_lastOfDepth_28 : decode cX4_lastOfDepth 28 = .ok (.ireturn, 1) := by decide +kernel
set_option maxRecDepth 20000 in
theorem ggX4_howManyOfDepth_X1_stepAt : GoodIn wsX4_howManyOfDepth wsX1_stepAt := goodIn_r _ [6, 7, 8, 12, 13, 14, 15, 16, 17] (by decide +kernel) (by decide +kernel)
set_option maxRecDepth 20000 in
theorem gX4_howManyOfDepth_X1_stepAt : GoodIn wsX4_howManyOfDepth (wsV RX4 103 RX1 yX1_stepAt wsX1_stepAt) := goodIn_app (goodIn_of _ (by decide +kernel)) ggX4_howManyOfDepth_X1_stepAt
theorem dX4_howManyOfDepth_0 : decode cX4_howManyOfDepth 0 = .ok (.iconst 0, 1) := by decide +kernel
theorem dX4_howManyOfDepth_1 : decode cX4_howManyOfDepth 1 = .ok (.istore_n 2, 1) := by decide +kernel
theorem dX4_howManyOfDepth_2 : decode cX4_howManyOfDepth 2 = .ok (.iconst 0, 1) := by decide +kernel
theorem dX4_howManyOfDepth_3 : decode cX4_howManyOfDepth 3 = .ok (.istore_n 3, 1) := by decide +kernel
theorem dX4_howManyOfDepth_4 : decode cX4_howManyOfDepth 4 = .ok (.iconst 0, 1) := by decide +kernel
theorem dX4_howManyOfDepth_5 : decode cX4_howManyOfDepth 5 = .ok (.istore 4, 2) := by decide +kernel
theorem dX4_howManyOfDepth_7 : decode cX4_howManyOfDepth 7 = .ok (.iload 4, 2) := by decide +kernel
theorem dX4_howManyOfDepth_9 : decode cX4_howManyOfDepth 9 = .ok (.aload_n 0, 1) := by decide +kernel
theorem dX4_howManyOfDepth_10 : decode cX4_howManyOfDepth 10 = .ok (.getfield 12, 3) := by decide +kernel
theorem dX4_howManyOfDepth_13 : decode cX4_howManyOfDepth 13 = .ok (.getfield 25, 3) := by decide +kernel
theorem dX4_howManyOfDepth_16 : decode cX4_howManyOfDepth 16 = .ok (.if_icmp .ge 39, 3) := by decide +kernel
theorem dX4_howManyOfDepth_19 : decode cX4_howManyOfDepth 19 = .ok (.aload_n 0, 1) := by decide +kernel
theorem dX4_howManyOfDepth_20 : decode cX4_howManyOfDepth 20 = .ok (.getfield 12, 3) := by decide +kernel
theorem dX4_howManyOfDepth_23 : decode cX4_howManyOfDepth 23 = .ok (.iload 4, 2) := by decide +kernel
theorem dX4_howManyOfDepth_25 : decode cX4_howManyOfDepth 25 = .ok (.invokevirtual 103, 3) := by decide +kernel
theorem dX4_howManyOfDepth_28 : decode cX4_howManyOfDepth 28 = .ok (.istore 5, 2) := by decide +kernel
theorem dX4_howManyOfDepth_30 : decode cX4_howManyOfDepth 30 = .ok (.iload 5, 2) := by decide +kernel
theorem dX4_howManyOfDepth_32 : decode cX4_howManyOfDepth 32 = .ok (.iconst 1, 1) := by decide +kernel
theorem dX4_howManyOfDepth_33 : decode cX4_howManyOfDepth 33 = .ok (.if_icmp .ne 11, 3) := by decide +kernel
theorem dX4_howManyOfDepth_36 : decode cX4_howManyOfDepth 36 = .ok (.iload_n 3, 1) := by decide +kernel
theorem dX4_howManyOfDepth_37 : decode cX4_howManyOfDepth 37 = .ok (.iload_n 1, 1) := by decide +kernel
theorem dX4_howManyOfDepth_38 : decode cX4_howManyOfDepth 38 = .ok (.if_icmp .ne 6, 3) := by decide +kernel
theorem dX4_howManyOfDepth_41 : decode cX4_howManyOfDepth 41 = .ok (.iinc 2 1, 3) := by decide +kernel
theorem dX4_howManyOfDepth_44 : decode cX4_howManyOfDepth 44 = .ok (.iload_n 3, 1) := by decide +kernel
theorem dX4_howManyOfDepth_45 : decode cX4_howManyOfDepth 45 = .ok (.iload 5, 2) := by decide +kernel
theorem dX4_howManyOfDepth_47 : decode cX4_howManyOfDepth 47 = .ok (.iadd, 1) := by decide +kernel
theorem dX4_howManyOfDepth_48 : decode cX4_howManyOfDepth 48 = .ok (.istore_n 3, 1) := by decide +kernel
theorem dX4_howManyOfDepth_49 : decode cX4_howManyOfDepth 49 = .ok (.iinc 4 1, 3) := by decide +kernel
theorem dX4_howManyOfDepth_52 : decode cX4_howManyOfDepth 52 = .ok (.goto (-45), 3) := by decide +kernel
theorem dX4_howManyOfDepth_55 : decode cX4_howManyOfDepth 55 = .ok (.iload_n 2, 1) := by decide +kernel
theorem dX4_howManyOfDepth_56 : decode cX4_howManyOfDepth 56 = .ok (.ireturn, 1) := by decide +kernel
set_option maxRecDepth 20000 in
theorem ggX4_weightBelow_X4_nodesOf : GoodIn wsX4_weightBelow wsX4_nodesOf := goodIn_r _ [10, 11, 12, 13, 14, 9, 15, 16, 17, 18, 19, 20, 21, 22, 23, 24, 25, 26, 27, 28, 29, 30, 31, 32, 33, 34, 35, 36, 37, 38, 39, 40, 41, 42, 43, 44, 45, 46, 47, 48, 49, 50, 51, 52, 53, 54, 55, 56, 57, 58, 59, 60, 61, 62, 63, 64, 65, 66, 67, 68, 69, 70, 71, 72, 73, 74, 75, 76, 77, 78, 79, 80, 81, 82, 83, 84, 85, 86, 87, 88, 89, 90, 91, 92, 93, 94] (by decide +kernel) (by decide +kernel)
set_option maxRecDepth 20000 in
theorem gX4_weightBelow_X4_nodesOf : GoodIn wsX4_weightBelow (wsV RX4 85 RX4 yX4_nodesOf wsX4_nodesOf) := goodIn_app (goodIn_of _ (by decide +kernel)) ggX4_weightBelow_X4_nodesOf
theorem dX4_weightBelow_0 : decode cX4_weightBelow 0 = .ok (.iload_n 1, 1) := by decide +kernel
theorem dX4_weightBelow_1 : decode cX4_weightBelow 1 = .ok (.aload_n 0, 1) := by decide +kernel
theorem dX4_weightBelow_2 : decode cX4_weightBelow 2 = .ok (.iload_n 1, 1) := by decide +kernel
theorem dX4_weightBelow_3 : decode cX4_weightBelow 3 = .ok (.invokevirtual 85, 3) := by decide +kernel
theorem dX4_weightBelow_6 : decode cX4_weightBelow 6 = .ok (.iadd, 1) := by decide +kernel
theorem dX4_weightBelow_7 : decode cX4_weightBelow 7 = .ok (.bipush 64, 2) := by decide +kernel
theorem dX4_weightBelow_9 : decode cX4_weightBelow 9 = .ok (.invokestatic 95, 3) := by decide +kernel
theorem dX4_weightBelow_12 : decode cX4_weightBelow 12 = .ok (.istore_n 2, 1) := by decide +kernel
theorem dX4_weightBelow_13 : decode cX4_weightBelow 13 = .ok (.lconst 0, 1) := by decide +kernel
theorem dX4_weightBelow_14 : decode cX4_weightBelow 14 = .ok (.lstore_n 3, 1) := by decide +kernel
theorem dX4_weightBelow_15 : decode cX4_weightBelow 15 = .ok (.iload_n 1, 1) := by decide +kernel
theorem dX4_weightBelow_16 : decode cX4_weightBelow 16 = .ok (.istore 5, 2) := by decide +kernel
theorem dX4_weightBelow_18 : decode cX4_weightBelow 18 = .ok (.iload 5, 2) := by decide +kernel
theorem dX4_weightBelow_20 : decode cX4_weightBelow 20 = .ok (.iload_n 2, 1) := by decide +kernel
theorem dX4_weightBelow_21 : decode cX4_weightBelow 21 = .ok (.if_icmp .ge 20, 3) := by decide +kernel
theorem dX4_weightBelow_24 : decode cX4_weightBelow 24 = .ok (.lload_n 3, 1) := by decide +kernel
theorem dX4_weightBelow_25 : decode cX4_weightBelow 25 = .ok (.aload_n 0, 1) := by decide +kernel
theorem dX4_weightBelow_26 : decode cX4_weightBelow 26 = .ok (.getfield 18, 3) := by decide +kernel
theorem dX4_weightBelow_29 : decode cX4_weightBelow 29 = .ok (.iload 5, 2) := by decide +kernel
theorem dX4_weightBelow_31 : decode cX4_weightBelow 31 = .ok (.iaload, 1) := by decide +kernel
theorem dX4_weightBelow_32 : decode cX4_weightBelow 32 = .ok (.i2l, 1) := by decide +kernel
theorem dX4_weightBelow_33 : decode cX4_weightBelow 33 = .ok (.ladd, 1) := by decide +kernel
theorem dX4_weightBelow_34 : decode cX4_weightBelow 34 = .ok (.lstore_n 3, 1) := by decide +kernel
theorem dX4_weightBelow_35 : decode cX4_weightBelow 35 = .ok (.iinc 5 1, 3) := by decide +kernel
theorem dX4_weightBelow_38 : decode cX4_weightBelow 38 = .ok (.goto (-20), 3) := by decide +kernel
theorem dX4_weightBelow_41 : decode cX4_weightBelow 41 = .ok (.lload_n 3, 1) := by decide +kernel
theorem dX4_weightBelow_42 : decode cX4_weightBelow 42 = .ok (.lreturn, 1) := by decide +kernel
set_option maxRecDepth 20000 in
theorem ggX4_weightAbove_X4_has : GoodIn wsX4_weightAbove wsX4_has := goodIn_r _ [6, 7, 8, 9, 5, 10, 11, 83, 84, 85, 86, 87, 88, 89, 90, 91] (by decide +kernel) (by decide +kernel)
set_option maxRecDepth 20000 in
theorem gX4_weightAbove_X4_has : GoodIn wsX4_weightAbove (wsV RX4 106 RX4 yX4_has wsX4_has) := goodIn_app (goodIn_of _ (by decide +kernel)) ggX4_weightAbove_X4_has
set_option maxRecDepth 20000 in
theorem ggX4_weightAbove_X4_aboveBy : GoodIn wsX4_weightAbove wsX4_aboveBy := goodIn_r _ [15, 11, 16, 17, 18, 5, 19, 20, 21, 22, 23, 24, 25, 26, 27, 28, 29, 30, 31, 32, 33, 34, 35, 36, 37, 38, 39, 40, 41, 42, 43, 44, 45, 46, 47, 48, 49, 50, 51, 52, 53, 54, 55, 56, 57, 58, 59, 60, 61, 62, 63, 64, 65, 66, 67, 68, 69, 70, 71, 72, 73, 74, 75, 76, 77, 78, 79, 80, 81, 82, 83, 84, 85, 86, 87, 88, 89, 90, 91] (by decide +kernel) (by decide +kernel)
set_option maxRecDepth 20000 in
theorem gX4_weightAbove_X4_aboveBy : GoodIn wsX4_weightAbove (wsV RX4 72 RX4 yX4_aboveBy wsX4_aboveBy) := goodIn_app (goodIn_of _ (by decide +kernel)) ggX4_weightAbove_X4_aboveBy
theorem dX4_weightAbove_0 : decode cX4_weightAbove 0 = .ok (.lconst 0, 1) := by decide +kernel
theorem dX4_weightAbove_1 : decode cX4_weightAbove 1 = .ok (.lstore_n 2, 1) := by decide +kernel
theorem dX4_weightAbove_2 : decode cX4_weightAbove 2 = .ok (.iload_n 1, 1) := by decide +kernel
theorem dX4_weightAbove_3 : decode cX4_weightAbove 3 = .ok (.istore 4, 2) := by decide +kernel
theorem dX4_weightAbove_5 : decode cX4_weightAbove 5 = .ok (.iconst 0, 1) := by decide +kernel
theorem dX4_weightAbove_6 : decode cX4_weightAbove 6 = .ok (.istore 5, 2) := by decide +kernel
theorem dX4_weightAbove_8 : decode cX4_weightAbove 8 = .ok (.iload 5, 2) := by decide +kernel
theorem dX4_weightAbove_10 : decode cX4_weightAbove 10 = .ok (.bipush 64, 2) := by decide +kernel
theorem dX4_weightAbove_12 : decode cX4_weightAbove 12 = .ok (.if_icmp .ge 38, 3) := by decide +kernel
theorem dX4_weightAbove_15 : decode cX4_weightAbove 15 = .ok (.aload_n 0, 1) := by decide +kernel
theorem dX4_weightAbove_16 : decode cX4_weightAbove 16 = .ok (.iload 4, 2) := by decide +kernel
theorem dX4_weightAbove_18 : decode cX4_weightAbove 18 = .ok (.invokevirtual 106, 3) := by decide +kernel
theorem dX4_weightAbove_21 : decode cX4_weightAbove 21 = .ok (.ifCond .eq 29, 3) := by decide +kernel
theorem dX4_weightAbove_24 : decode cX4_weightAbove 24 = .ok (.lload_n 2, 1) := by decide +kernel
theorem dX4_weightAbove_25 : decode cX4_weightAbove 25 = .ok (.aload_n 0, 1) := by decide +kernel
theorem dX4_weightAbove_26 : decode cX4_weightAbove 26 = .ok (.getfield 18, 3) := by decide +kernel
theorem dX4_weightAbove_29 : decode cX4_weightAbove 29 = .ok (.iload 4, 2) := by decide +kernel
theorem dX4_weightAbove_31 : decode cX4_weightAbove 31 = .ok (.iaload, 1) := by decide +kernel
theorem dX4_weightAbove_32 : decode cX4_weightAbove 32 = .ok (.i2l, 1) := by decide +kernel
theorem dX4_weightAbove_33 : decode cX4_weightAbove 33 = .ok (.ladd, 1) := by decide +kernel
theorem dX4_weightAbove_34 : decode cX4_weightAbove 34 = .ok (.lstore_n 2, 1) := by decide +kernel
theorem dX4_weightAbove_35 : decode cX4_weightAbove 35 = .ok (.aload_n 0, 1) := by decide +kernel
theorem dX4_weightAbove_36 : decode cX4_weightAbove 36 = .ok (.iload 4, 2) := by decide +kernel
theorem dX4_weightAbove_38 : decode cX4_weightAbove 38 = .ok (.iconst 1, 1) := by decide +kernel
theorem dX4_weightAbove_39 : decode cX4_weightAbove 39 = .ok (.invokevirtual 72, 3) := by decide +kernel
theorem dX4_weightAbove_42 : decode cX4_weightAbove 42 = .ok (.istore 4, 2) := by decide +kernel
theorem dX4_weightAbove_44 : decode cX4_weightAbove 44 = .ok (.iinc 5 1, 3) := by decide +kernel
theorem dX4_weightAbove_47 : decode cX4_weightAbove 47 = .ok (.goto (-39), 3) := by decide +kernel
theorem dX4_weightAbove_50 : decode cX4_weightAbove 50 = .ok (.lload_n 2, 1) := by decide +kernel
theorem dX4_weightAbove_51 : decode cX4_weightAbove 51 = .ok (.lreturn, 1) := by decide +kernel
set_option maxRecDepth 20000 in
theorem ggX4_heaviestOf_X4_nodesOf : GoodIn wsX4_heaviestOf wsX4_nodesOf := goodIn_r _ [10, 11, 12, 13, 14, 9, 15, 16, 17, 18, 19, 20, 21, 22, 23, 24, 25, 26, 27, 28, 29, 30, 31, 32, 33, 34, 35, 36, 37, 38, 39, 40, 41, 42, 43, 44, 45, 46, 47, 48, 49, 50, 51, 52, 53, 54, 55, 56, 57, 58, 59, 60, 61, 62, 63, 64, 65, 66, 67, 68, 69, 70, 71, 72, 73, 74, 75, 76, 77, 78, 79, 80, 81, 82, 83, 84, 85, 86, 87, 88, 89, 90, 91, 92, 93, 94] (by decide +kernel) (by decide +kernel)
set_option maxRecDepth 20000 in
theorem gX4_heaviestOf_X4_nodesOf : GoodIn wsX4_heaviestOf (wsV RX4 85 RX4 yX4_nodesOf wsX4_nodesOf) := goodIn_app (goodIn_of _ (by decide +kernel)) ggX4_heaviestOf_X4_nodesOf
theorem dX4_heaviestOf_0 : decode cX4_heaviestOf 0 = .ok (.iload_n 1, 1) := by decide +kernel
theorem dX4_heaviestOf_1 : decode cX4_heaviestOf 1 = .ok (.aload_n 0, 1) := by decide +kernel
theorem dX4_heaviestOf_2 : decode cX4_heaviestOf 2 = .ok (.iload_n 1, 1) := by decide +kernel
theorem dX4_heaviestOf_3 : decode cX4_heaviestOf 3 = .ok (.invokevirtual 85, 3) := by decide +kernel
theorem dX4_heaviestOf_6 : decode cX4_heaviestOf 6 = .ok (.iadd, 1) := by decide +kernel
theorem dX4_heaviestOf_7 : decode cX4_heaviestOf 7 = .ok (.bipush 64, 2) := by decide +kernel
theorem dX4_heaviestOf_9 : decode cX4_heaviestOf 9 = .ok (.invokestatic 95, 3) := by decide +kernel
theorem dX4_heaviestOf_12 : decode cX4_heaviestOf 12 = .ok (.istore_n 2, 1) := by decide +kernel
theorem dX4_heaviestOf_13 : decode cX4_heaviestOf 13 = .ok (.iload_n 1, 1) := by decide +kernel
theorem dX4_heaviestOf_14 : decode cX4_heaviestOf 14 = .ok (.istore_n 3, 1) := by decide +kernel
theorem dX4_heaviestOf_15 : decode cX4_heaviestOf 15 = .ok (.iload_n 1, 1) := by decide +kernel
theorem dX4_heaviestOf_16 : decode cX4_heaviestOf 16 = .ok (.iconst 1, 1) := by decide +kernel
theorem dX4_heaviestOf_17 : decode cX4_heaviestOf 17 = .ok (.iadd, 1) := by decide +kernel
theorem dX4_heaviestOf_18 : decode cX4_heaviestOf 18 = .ok (.istore 4, 2) := by decide +kernel
theorem dX4_heaviestOf_20 : decode cX4_heaviestOf 20 = .ok (.iload 4, 2) := by decide +kernel
theorem dX4_heaviestOf_22 : decode cX4_heaviestOf 22 = .ok (.iload_n 2, 1) := by decide +kernel
theorem dX4_heaviestOf_23 : decode cX4_heaviestOf 23 = .ok (.if_icmp .ge 28, 3) := by decide +kernel
theorem dX4_heaviestOf_26 : decode cX4_heaviestOf 26 = .ok (.aload_n 0, 1) := by decide +kernel
theorem dX4_heaviestOf_27 : decode cX4_heaviestOf 27 = .ok (.getfield 18, 3) := by decide +kernel
theorem dX4_heaviestOf_30 : decode cX4_heaviestOf 30 = .ok (.iload 4, 2) := by decide +kernel
theorem dX4_heaviestOf_32 : decode cX4_heaviestOf 32 = .ok (.iaload, 1) := by decide +kernel
theorem dX4_heaviestOf_33 : decode cX4_heaviestOf 33 = .ok (.aload_n 0, 1) := by decide +kernel
theorem dX4_heaviestOf_34 : decode cX4_heaviestOf 34 = .ok (.getfield 18, 3) := by decide +kernel
theorem dX4_heaviestOf_37 : decode cX4_heaviestOf 37 = .ok (.iload_n 3, 1) := by decide +kernel
theorem dX4_heaviestOf_38 : decode cX4_heaviestOf 38 = .ok (.iaload, 1) := by decide +kernel
theorem dX4_heaviestOf_39 : decode cX4_heaviestOf 39 = .ok (.if_icmp .le 6, 3) := by decide +kernel
theorem dX4_heaviestOf_42 : decode cX4_heaviestOf 42 = .ok (.iload 4, 2) := by decide +kernel
theorem dX4_heaviestOf_44 : decode cX4_heaviestOf 44 = .ok (.istore_n 3, 1) := by decide +kernel
theorem dX4_heaviestOf_45 : decode cX4_heaviestOf 45 = .ok (.iinc 4 1, 3) := by decide +kernel
theorem dX4_heaviestOf_48 : decode cX4_heaviestOf 48 = .ok (.goto (-28), 3) := by decide +kernel
theorem dX4_heaviestOf_51 : decode cX4_heaviestOf 51 = .ok (.iload_n 3, 1) := by decide +kernel
theorem dX4_heaviestOf_52 : decode cX4_heaviestOf 52 = .ok (.ireturn, 1) := by decide +kernel
theorem dX4_forgetWeights_0 : decode cX4_forgetWeights 0 = .ok (.iconst 0, 1) := by decide +kernel
theorem dX4_forgetWeights_1 : decode cX4_forgetWeights 1 = .ok (.istore_n 1, 1) := by decide +kernel
theorem dX4_forgetWeights_2 : decode cX4_forgetWeights 2 = .ok (.iload_n 1, 1) := by decide +kernel
theorem dX4_forgetWeights_3 : decode cX4_forgetWeights 3 = .ok (.bipush 64, 2) := by decide +kernel
theorem dX4_forgetWeights_5 : decode cX4_forgetWeights 5 = .ok (.if_icmp .ge 16, 3) := by decide +kernel
theorem dX4_forgetWeights_8 : decode cX4_forgetWeights 8 = .ok (.aload_n 0, 1) := by decide +kernel
theorem dX4_forgetWeights_9 : decode cX4_forgetWeights 9 = .ok (.getfield 18, 3) := by decide +kernel
theorem dX4_forgetWeights_12 : decode cX4_forgetWeights 12 = .ok (.iload_n 1, 1) := by decide +kernel
theorem dX4_forgetWeights_13 : decode cX4_forgetWeights 13 = .ok (.iconst 0, 1) := by decide +kernel
theorem dX4_forgetWeights_14 : decode cX4_forgetWeights 14 = .ok (.iastore, 1) := by decide +kernel
theorem dX4_forgetWeights_15 : decode cX4_forgetWeights 15 = .ok (.iinc 1 1, 3) := by decide +kernel
theorem dX4_forgetWeights_18 : decode cX4_forgetWeights 18 = .ok (.goto (-16), 3) := by decide +kernel
theorem dX4_forgetWeights_21 : decode cX4_forgetWeights 21 = .ok (.return_, 1) := by decide +kernel
set_option maxRecDepth 20000 in
theorem ggX4_openWeights_X4_nodes : GoodIn wsX4_openWeights wsX4_nodes := goodIn_r _ [10, 11, 12, 13, 14, 15, 16, 17, 18, 19, 20] (by decide +kernel) (by decide +kernel)
set_option maxRecDepth 20000 in
theorem gX4_openWeights_X4_nodes : GoodIn wsX4_openWeights (wsV RX4 29 RX4 yX4_nodes wsX4_nodes) := goodIn_app (goodIn_of _ (by decide +kernel)) ggX4_openWeights_X4_nodes
theorem dX4_openWeights_0 : decode cX4_openWeights 0 = .ok (.aload_n 0, 1) := by decide +kernel
theorem dX4_openWeights_1 : decode cX4_openWeights 1 = .ok (.getfield 18, 3) := by decide +kernel
theorem dX4_openWeights_4 : decode cX4_openWeights 4 = .ok (.iload_n 1, 1) := by decide +kernel
theorem dX4_openWeights_5 : decode cX4_openWeights 5 = .ok (.aload_n 0, 1) := by decide +kernel
theorem dX4_openWeights_6 : decode cX4_openWeights 6 = .ok (.getfield 18, 3) := by decide +kernel
theorem dX4_openWeights_9 : decode cX4_openWeights 9 = .ok (.iload_n 1, 1) := by decide +kernel
theorem dX4_openWeights_10 : decode cX4_openWeights 10 = .ok (.iload_n 2, 1) := by decide +kernel
theorem dX4_openWeights_11 : decode cX4_openWeights 11 = .ok (.iadd, 1) := by decide +kernel
theorem dX4_openWeights_12 : decode cX4_openWeights 12 = .ok (.aload_n 0, 1) := by decide +kernel
theorem dX4_openWeights_13 : decode cX4_openWeights 13 = .ok (.invokevirtual 29, 3) := by decide +kernel
theorem dX4_openWeights_16 : decode cX4_openWeights 16 = .ok (.iload_n 1, 1) := by decide +kernel
theorem dX4_openWeights_17 : decode cX4_openWeights 17 = .ok (.isub, 1) := by decide +kernel
theorem dX4_openWeights_18 : decode cX4_openWeights 18 = .ok (.invokestatic 110, 3) := by decide +kernel
theorem dX4_openWeights_21 : decode cX4_openWeights 21 = .ok (.return_, 1) := by decide +kernel
set_option maxRecDepth 20000 in
theorem ggX4_closeWeights_X4_nodes : GoodIn wsX4_closeWeights wsX4_nodes := goodIn_r _ [10, 11, 12, 13, 14, 15, 16, 17, 18, 19, 20] (by decide +kernel) (by decide +kernel)
set_option maxRecDepth 20000 in
theorem gX4_closeWeights_X4_nodes : GoodIn wsX4_closeWeights (wsV RX4 29 RX4 yX4_nodes wsX4_nodes) := goodIn_app (goodIn_of _ (by decide +kernel)) ggX4_closeWeights_X4_nodes
theorem dX4_closeWeights_0 : decode cX4_closeWeights 0 = .ok (.aload_n 0, 1) := by decide +kernel
theorem dX4_closeWeights_1 : decode cX4_closeWeights 1 = .ok (.getfield 18, 3) := by decide +kernel
theorem dX4_closeWeights_4 : decode cX4_closeWeights 4 = .ok (.iload_n 1, 1) := by decide +kernel
theorem dX4_closeWeights_5 : decode cX4_closeWeights 5 = .ok (.iload_n 2, 1) := by decide +kernel
theorem dX4_closeWeights_6 : decode cX4_closeWeights 6 = .ok (.iadd, 1) := by decide +kernel
theorem dX4_closeWeights_7 : decode cX4_closeWeights 7 = .ok (.aload_n 0, 1) := by decide +kernel
theorem dX4_closeWeights_8 : decode cX4_closeWeights 8 = .ok (.getfield 18, 3) := by decide +kernel
theorem dX4_closeWeights_11 : decode cX4_closeWeights 11 = .ok (.iload_n 1, 1) := by decide +kernel
theorem dX4_closeWeights_12 : decode cX4_closeWeights 12 = .ok (.aload_n 0, 1) := by decide +kernel
theorem dX4_closeWeights_13 : decode cX4_closeWeights 13 = .ok (.invokevirtual 29, 3) := by decide +kernel
theorem dX4_closeWeights_16 : decode cX4_closeWeights 16 = .ok (.iload_n 1, 1) := by decide +kernel
theorem dX4_closeWeights_17 : decode cX4_closeWeights 17 = .ok (.isub, 1) := by decide +kernel
theorem dX4_closeWeights_18 : decode cX4_closeWeights 18 = .ok (.iload_n 2, 1) := by decide +kernel
theorem dX4_closeWeights_19 : decode cX4_closeWeights 19 = .ok (.isub, 1) := by decide +kernel
theorem dX4_closeWeights_20 : decode cX4_closeWeights 20 = .ok (.invokestatic 110, 3) := by decide +kernel
theorem dX4_closeWeights_23 : decode cX4_closeWeights 23 = .ok (.return_, 1) := by decide +kernel
set_option maxRecDepth 20000 in
theorem ggX4_addLeafAt_X1_opensAhead : GoodIn wsX4_addLeafAt wsX1_opensAhead := goodIn_r _ [7, 8, 9, 10, 6, 11, 12, 13, 14, 15, 16, 17, 18, 19, 20, 21, 22, 23, 24, 25, 76, 77, 78, 79, 80, 81] (by decide +kernel) (by decide +kernel)
set_option maxRecDepth 20000 in
theorem gX4_addLeafAt_X1_opensAhead : GoodIn wsX4_addLeafAt (wsV RX4 47 RX1 yX1_opensAhead wsX1_opensAhead) := goodIn_app (goodIn_of _ (by decide +kernel)) ggX4_addLeafAt_X1_opensAhead
set_option maxRecDepth 20000 in
theorem ggX4_addLeafAt_X4_openWeights : GoodIn wsX4_addLeafAt wsX4_openWeights := goodIn_r _ [30, 2, 31, 32, 33, 34, 35, 36, 37, 29, 38, 1, 73, 74, 75, 76, 77, 78, 79, 80, 81] (by decide +kernel) (by decide +kernel)
set_option maxRecDepth 20000 in
theorem gX4_addLeafAt_X4_openWeights : GoodIn wsX4_addLeafAt (wsV RX4 116 RX4 yX4_openWeights wsX4_openWeights) := goodIn_app (goodIn_of _ (by decide +kernel)) ggX4_addLeafAt_X4_openWeights
set_option maxRecDepth 20000 in
theorem ggX4_addLeafAt_X1_insert : GoodIn wsX4_addLeafAt wsX1_insert := goodIn_r _ [42, 12, 43, 13, 44, 14, 15, 16, 17, 18, 45, 46, 47, 48, 49, 50, 51, 52, 53, 6, 54, 55, 56, 57, 58, 59, 60, 61, 62, 63, 64, 65, 66, 67, 68, 69, 70, 71, 72, 76, 77, 78, 79, 80, 81] (by decide +kernel) (by decide +kernel)
set_option maxRecDepth 20000 in
theorem gX4_addLeafAt_X1_insert : GoodIn wsX4_addLeafAt (wsV RX4 120 RX1 yX1_insert wsX1_insert) := goodIn_app (goodIn_of _ (by decide +kernel)) ggX4_addLeafAt_X1_insert
theorem dX4_addLeafAt_0 : decode cX4_addLeafAt 0 = .ok (.aload_n 0, 1) := by decide +kernel
theorem dX4_addLeafAt_1 : decode cX4_addLeafAt 1 = .ok (.getfield 12, 3) := by decide +kernel
theorem dX4_addLeafAt_4 : decode cX4_addLeafAt 4 = .ok (.iload_n 1, 1) := by decide +kernel
theorem dX4_addLeafAt_5 : decode cX4_addLeafAt 5 = .ok (.invokevirtual 47, 3) := by decide +kernel
theorem dX4_addLeafAt_8 : decode cX4_addLeafAt 8 = .ok (.istore_n 3, 1) := by decide +kernel
theorem dX4_addLeafAt_9 : decode cX4_addLeafAt 9 = .ok (.aload_n 0, 1) := by decide +kernel
theorem dX4_addLeafAt_10 : decode cX4_addLeafAt 10 = .ok (.iload_n 3, 1) := by decide +kernel
theorem dX4_addLeafAt_11 : decode cX4_addLeafAt 11 = .ok (.iconst 1, 1) := by decide +kernel
theorem dX4_addLeafAt_12 : decode cX4_addLeafAt 12 = .ok (.invokevirtual 116, 3) := by decide +kernel
theorem dX4_addLeafAt_15 : decode cX4_addLeafAt 15 = .ok (.aload_n 0, 1) := by decide +kernel
theorem dX4_addLeafAt_16 : decode cX4_addLeafAt 16 = .ok (.getfield 18, 3) := by decide +kernel
theorem dX4_addLeafAt_19 : decode cX4_addLeafAt 19 = .ok (.iload_n 3, 1) := by decide +kernel
theorem dX4_addLeafAt_20 : decode cX4_addLeafAt 20 = .ok (.iload_n 2, 1) := by decide +kernel
theorem dX4_addLeafAt_21 : decode cX4_addLeafAt 21 = .ok (.iastore, 1) := by decide +kernel
theorem dX4_addLeafAt_22 : decode cX4_addLeafAt 22 = .ok (.aload_n 0, 1) := by decide +kernel
theorem dX4_addLeafAt_23 : decode cX4_addLeafAt 23 = .ok (.getfield 12, 3) := by decide +kernel
theorem dX4_addLeafAt_26 : decode cX4_addLeafAt 26 = .ok (.iload_n 1, 1) := by decide +kernel
theorem dX4_addLeafAt_27 : decode cX4_addLeafAt 27 = .ok (.iconst 2, 1) := by decide +kernel
theorem dX4_addLeafAt_28 : decode cX4_addLeafAt 28 = .ok (.lconst 1, 1) := by decide +kernel
theorem dX4_addLeafAt_29 : decode cX4_addLeafAt 29 = .ok (.lconst 0, 1) := by decide +kernel
theorem dX4_addLeafAt_30 : decode cX4_addLeafAt 30 = .ok (.invokevirtual 120, 3) := by decide +kernel
theorem dX4_addLeafAt_33 : decode cX4_addLeafAt 33 = .ok (.iload_n 3, 1) := by decide +kernel
theorem dX4_addLeafAt_34 : decode cX4_addLeafAt 34 = .ok (.ireturn, 1) := by decide +kernel
set_option maxRecDepth 20000 in
theorem ggX4_addAbout_X1_opensAhead : GoodIn wsX4_addAbout wsX1_opensAhead := goodIn_r _ [7, 8, 9, 10, 6, 11, 12, 13, 14, 15, 16, 17, 18, 19, 20, 21, 22, 23, 24, 25, 76, 77, 78, 79, 80, 81] (by decide +kernel) (by decide +kernel)
set_option maxRecDepth 20000 in
theorem gX4_addAbout_X1_opensAhead : GoodIn wsX4_addAbout (wsV RX4 47 RX1 yX1_opensAhead wsX1_opensAhead) := goodIn_app (goodIn_of _ (by decide +kernel)) ggX4_addAbout_X1_opensAhead
set_option maxRecDepth 20000 in
theorem ggX4_addAbout_X4_openWeights : GoodIn wsX4_addAbout wsX4_openWeights := goodIn_r _ [30, 2, 31, 32, 33, 34, 35, 36, 37, 29, 38, 1, 73, 74, 75, 76, 77, 78, 79, 80, 81] (by decide +kernel) (by decide +kernel)
set_option maxRecDepth 20000 in
theorem gX4_addAbout_X4_openWeights : GoodIn wsX4_addAbout (wsV RX4 116 RX4 yX4_openWeights wsX4_openWeights) := goodIn_app (goodIn_of _ (by decide +kernel)) ggX4_addAbout_X4_openWeights
set_option maxRecDepth 20000 in
theorem ggX4_addAbout_X1_insert : GoodIn wsX4_addAbout wsX1_insert := goodIn_r _ [42, 12, 43, 13, 44, 14, 15, 16, 17, 18, 45, 46, 47, 48, 49, 50, 51, 52, 53, 6, 54, 55, 56, 57, 58, 59, 60, 61, 62, 63, 64, 65, 66, 67, 68, 69, 70, 71, 72, 76, 77, 78, 79, 80, 81] (by decide +kernel) (by decide +kernel)
set_option maxRecDepth 20000 in
theorem gX4_addAbout_X1_insert : GoodIn wsX4_addAbout (wsV RX4 120 RX1 yX1_insert wsX1_insert) := goodIn_app (goodIn_of _ (by decide +kernel)) ggX4_addAbout_X1_insert
theorem dX4_addAbout_0 : decode cX4_addAbout 0 = .ok (.aload_n 0, 1) := by decide +kernel
theorem dX4_addAbout_1 : decode cX4_addAbout 1 = .ok (.getfield 12, 3) := by decide +kernel
theorem dX4_addAbout_4 : decode cX4_addAbout 4 = .ok (.iload_n 1, 1) := by decide +kernel
theorem dX4_addAbout_5 : decode cX4_addAbout 5 = .ok (.invokevirtual 47, 3) := by decide +kernel
theorem dX4_addAbout_8 : decode cX4_addAbout 8 = .ok (.istore 4, 2) := by decide +kernel
theorem dX4_addAbout_10 : decode cX4_addAbout 10 = .ok (.aload_n 0, 1) := by decide +kernel
theorem dX4_addAbout_11 : decode cX4_addAbout 11 = .ok (.iload 4, 2) := by decide +kernel
theorem dX4_addAbout_13 : decode cX4_addAbout 13 = .ok (.iconst 1, 1) := by decide +kernel
theorem dX4_addAbout_14 : decode cX4_addAbout 14 = .ok (.invokevirtual 116, 3) := by decide +kernel
theorem dX4_addAbout_17 : decode cX4_addAbout 17 = .ok (.aload_n 0, 1) := by decide +kernel
theorem dX4_addAbout_18 : decode cX4_addAbout 18 = .ok (.getfield 18, 3) := by decide +kernel
theorem dX4_addAbout_21 : decode cX4_addAbout 21 = .ok (.iload 4, 2) := by decide +kernel
theorem dX4_addAbout_23 : decode cX4_addAbout 23 = .ok (.iload_n 3, 1) := by decide +kernel
theorem dX4_addAbout_24 : decode cX4_addAbout 24 = .ok (.iastore, 1) := by decide +kernel
theorem dX4_addAbout_25 : decode cX4_addAbout 25 = .ok (.aload_n 0, 1) := by decide +kernel
theorem dX4_addAbout_26 : decode cX4_addAbout 26 = .ok (.getfield 12, 3) := by decide +kernel
theorem dX4_addAbout_29 : decode cX4_addAbout 29 = .ok (.iload_n 2, 1) := by decide +kernel
theorem dX4_addAbout_30 : decode cX4_addAbout 30 = .ok (.iconst 1, 1) := by decide +kernel
theorem dX4_addAbout_31 : decode cX4_addAbout 31 = .ok (.lconst 0, 1) := by decide +kernel
theorem dX4_addAbout_32 : decode cX4_addAbout 32 = .ok (.lconst 0, 1) := by decide +kernel
theorem dX4_addAbout_33 : decode cX4_addAbout 33 = .ok (.invokevirtual 120, 3) := by decide +kernel
theorem dX4_addAbout_36 : decode cX4_addAbout 36 = .ok (.aload_n 0, 1) := by decide +kernel
theorem dX4_addAbout_37 : decode cX4_addAbout 37 = .ok (.getfield 12, 3) := by decide +kernel
theorem dX4_addAbout_40 : decode cX4_addAbout 40 = .ok (.iload_n 1, 1) := by decide +kernel
theorem dX4_addAbout_41 : decode cX4_addAbout 41 = .ok (.iconst 1, 1) := by decide +kernel
theorem dX4_addAbout_42 : decode cX4_addAbout 42 = .ok (.lconst 1, 1) := by decide +kernel
theorem dX4_addAbout_43 : decode cX4_addAbout 43 = .ok (.lconst 0, 1) := by decide +kernel
theorem dX4_addAbout_44 : decode cX4_addAbout 44 = .ok (.invokevirtual 120, 3) := by decide +kernel
theorem dX4_addAbout_47 : decode cX4_addAbout 47 = .ok (.iload 4, 2) := by decide +kernel
theorem dX4_addAbout_49 : decode cX4_addAbout 49 = .ok (.ireturn, 1) := by decide +kernel
set_option maxRecDepth 20000 in
theorem ggX4_removeSubtree_X4_nodesOf : GoodIn wsX4_removeSubtree wsX4_nodesOf := goodIn_r _ [6, 1, 7, 8, 9, 5, 10, 11, 12, 13, 14, 15, 16, 17, 18, 19, 20, 21, 22, 23, 24, 25, 26, 27, 28, 29, 30, 31, 32, 33, 34, 35, 36, 37, 38, 39, 40, 41, 42, 43, 44, 45, 46, 47, 48, 49, 50, 51, 52, 53, 54, 55, 56, 57, 58, 59, 60, 61, 62, 63, 64, 65, 66, 67, 68, 69, 70, 71, 72, 73, 74, 75, 76, 77, 78, 79, 80, 113, 114, 115, 116, 117, 118, 119, 120, 121] (by decide +kernel) (by decide +kernel)
set_option maxRecDepth 20000 in
theorem gX4_removeSubtree_X4_nodesOf : GoodIn wsX4_removeSubtree (wsV RX4 85 RX4 yX4_nodesOf wsX4_nodesOf) := goodIn_app (goodIn_of _ (by decide +kernel)) ggX4_removeSubtree_X4_nodesOf
set_option maxRecDepth 20000 in
theorem ggX4_removeSubtree_X4_openOf : GoodIn wsX4_removeSubtree wsX4_openOf := goodIn_r _ [10, 1, 11, 12, 13, 14, 15, 16, 17, 18, 19, 20, 21, 22, 23, 24, 25, 26, 27, 28, 29, 30, 31, 32, 33, 34, 35, 36, 37, 38, 39, 40, 41, 42, 43, 44, 45, 46, 47, 48, 49, 113, 114, 115, 116, 117, 118, 119, 120, 121] (by decide +kernel) (by decide +kernel)
set_option maxRecDepth 20000 in
theorem gX4_removeSubtree_X4_openOf : GoodIn wsX4_removeSubtree (wsV RX4 37 RX4 yX4_openOf wsX4_openOf) := goodIn_app (goodIn_of _ (by decide +kernel)) ggX4_removeSubtree_X4_openOf
set_option maxRecDepth 20000 in
theorem ggX4_removeSubtree_X4_closeWeights : GoodIn wsX4_removeSubtree wsX4_closeWeights := goodIn_r _ [84, 85, 86, 87, 88, 89, 90, 91, 92, 5, 93, 1, 113, 114, 115, 116, 117, 118, 119, 120, 121] (by decide +kernel) (by decide +kernel)
set_option maxRecDepth 20000 in
theorem gX4_removeSubtree_X4_closeWeights : GoodIn wsX4_removeSubtree (wsV RX4 124 RX4 yX4_closeWeights wsX4_closeWeights) := goodIn_app (goodIn_of _ (by decide +kernel)) ggX4_removeSubtree_X4_closeWeights
set_option maxRecDepth 20000 in
theorem ggX4_removeSubtree_X1_remove : GoodIn wsX4_removeSubtree wsX1_remove := goodIn_r _ [97, 20, 23, 21, 22, 24, 25, 26, 27, 28, 29, 30, 31, 47, 48, 49, 98, 99, 100, 14, 101, 102, 103, 104, 105, 106, 107, 108, 109, 110, 111, 112, 66, 71, 72, 73, 74, 75, 76, 116, 117, 118, 119, 120, 121] (by decide +kernel) (by decide +kernel)
set_option maxRecDepth 20000 in
theorem gX4_removeSubtree_X1_remove : GoodIn wsX4_removeSubtree (wsV RX4 127 RX1 yX1_remove wsX1_remove) := goodIn_app (goodIn_of _ (by decide +kernel)) ggX4_removeSubtree_X1_remove
theorem dX4_removeSubtree_0 : decode cX4_removeSubtree 0 = .ok (.aload_n 0, 1) := by decide +kernel
theorem dX4_removeSubtree_1 : decode cX4_removeSubtree 1 = .ok (.iload_n 1, 1) := by decide +kernel
theorem dX4_removeSubtree_2 : decode cX4_removeSubtree 2 = .ok (.invokevirtual 85, 3) := by decide +kernel
theorem dX4_removeSubtree_5 : decode cX4_removeSubtree 5 = .ok (.istore_n 2, 1) := by decide +kernel
theorem dX4_removeSubtree_6 : decode cX4_removeSubtree 6 = .ok (.aload_n 0, 1) := by decide +kernel
theorem dX4_removeSubtree_7 : decode cX4_removeSubtree 7 = .ok (.iload_n 1, 1) := by decide +kernel
theorem dX4_removeSubtree_8 : decode cX4_removeSubtree 8 = .ok (.invokevirtual 37, 3) := by decide +kernel
theorem dX4_removeSubtree_11 : decode cX4_removeSubtree 11 = .ok (.istore_n 3, 1) := by decide +kernel
theorem dX4_removeSubtree_12 : decode cX4_removeSubtree 12 = .ok (.aload_n 0, 1) := by decide +kernel
theorem dX4_removeSubtree_13 : decode cX4_removeSubtree 13 = .ok (.iload_n 1, 1) := by decide +kernel
theorem dX4_removeSubtree_14 : decode cX4_removeSubtree 14 = .ok (.iload_n 2, 1) := by decide +kernel
theorem dX4_removeSubtree_15 : decode cX4_removeSubtree 15 = .ok (.invokevirtual 124, 3) := by decide +kernel
theorem dX4_removeSubtree_18 : decode cX4_removeSubtree 18 = .ok (.aload_n 0, 1) := by decide +kernel
theorem dX4_removeSubtree_19 : decode cX4_removeSubtree 19 = .ok (.getfield 12, 3) := by decide +kernel
theorem dX4_removeSubtree_22 : decode cX4_removeSubtree 22 = .ok (.iload_n 3, 1) := by decide +kernel
theorem dX4_removeSubtree_23 : decode cX4_removeSubtree 23 = .ok (.iconst 2, 1) := by decide +kernel
theorem dX4_removeSubtree_24 : decode cX4_removeSubtree 24 = .ok (.iload_n 2, 1) := by decide +kernel
theorem dX4_removeSubtree_25 : decode cX4_removeSubtree 25 = .ok (.imul, 1) := by decide +kernel
theorem dX4_removeSubtree_26 : decode cX4_removeSubtree 26 = .ok (.invokevirtual 127, 3) := by decide +kernel
theorem dX4_removeSubtree_29 : decode cX4_removeSubtree 29 = .ok (.return_, 1) := by decide +kernel
set_option maxRecDepth 20000 in
theorem ggX4_removeAlone_X4_openOf : GoodIn wsX4_removeAlone wsX4_openOf := goodIn_r _ [6, 1, 7, 8, 9, 10, 11, 12, 13, 14, 15, 16, 17, 18, 19, 20, 21, 22, 23, 24, 25, 26, 27, 28, 29, 30, 31, 32, 33, 34, 35, 36, 37, 38, 39, 40, 41, 42, 43, 44, 45, 109, 110, 111, 112, 113, 114, 115, 116, 117] (by decide +kernel) (by decide +kernel)
set_option maxRecDepth 20000 in
theorem gX4_removeAlone_X4_openOf : GoodIn wsX4_removeAlone (wsV RX4 37 RX4 yX4_openOf wsX4_openOf) := goodIn_app (goodIn_of _ (by decide +kernel)) ggX4_removeAlone_X4_openOf
set_option maxRecDepth 20000 in
theorem ggX4_removeAlone_X1_partnerOf : GoodIn wsX4_removeAlone wsX1_partnerOf := goodIn_r _ [49, 50, 51, 52, 10, 53, 16, 19, 54, 55, 56, 57, 20, 21, 22, 23, 24, 28, 29, 30, 31, 32, 33, 34, 58, 59, 60, 61, 18, 62, 63, 64, 65, 66, 67, 68, 69, 70, 71, 72, 73, 74, 75, 76, 112, 113, 114, 115, 116, 117] (by decide +kernel) (by decide +kernel)
set_option maxRecDepth 20000 in
theorem gX4_removeAlone_X1_partnerOf : GoodIn wsX4_removeAlone (wsV RX4 41 RX1 yX1_partnerOf wsX1_partnerOf) := goodIn_app (goodIn_of _ (by decide +kernel)) ggX4_removeAlone_X1_partnerOf
set_option maxRecDepth 20000 in
theorem ggX4_removeAlone_X4_closeWeights : GoodIn wsX4_removeAlone wsX4_closeWeights := goodIn_r _ [80, 81, 82, 83, 84, 85, 86, 87, 88, 5, 89, 1, 109, 110, 111, 112, 113, 114, 115, 116, 117] (by decide +kernel) (by decide +kernel)
set_option maxRecDepth 20000 in
theorem gX4_removeAlone_X4_closeWeights : GoodIn wsX4_removeAlone (wsV RX4 124 RX4 yX4_closeWeights wsX4_closeWeights) := goodIn_app (goodIn_of _ (by decide +kernel)) ggX4_removeAlone_X4_closeWeights
set_option maxRecDepth 20000 in
theorem ggX4_removeAlone_X1_remove : GoodIn wsX4_removeAlone wsX1_remove := goodIn_r _ [93, 16, 19, 17, 18, 20, 21, 22, 23, 24, 25, 26, 27, 43, 44, 45, 94, 95, 96, 10, 97, 98, 99, 100, 101, 102, 103, 104, 105, 106, 107, 108, 62, 67, 68, 69, 70, 71, 72, 112, 113, 114, 115, 116, 117] (by decide +kernel) (by decide +kernel)
set_option maxRecDepth 20000 in
theorem gX4_removeAlone_X1_remove : GoodIn wsX4_removeAlone (wsV RX4 127 RX1 yX1_remove wsX1_remove) := goodIn_app (goodIn_of _ (by decide +kernel)) ggX4_removeAlone_X1_remove
theorem dX4_removeAlone_0 : decode cX4_removeAlone 0 = .ok (.aload_n 0, 1) := by decide +kernel
theorem dX4_removeAlone_1 : decode cX4_removeAlone 1 = .ok (.iload_n 1, 1) := by decide +kernel
theorem dX4_removeAlone_2 : decode cX4_removeAlone 2 = .ok (.invokevirtual 37, 3) := by decide +kernel
theorem dX4_removeAlone_5 : decode cX4_removeAlone 5 = .ok (.istore_n 2, 1) := by decide +kernel
theorem dX4_removeAlone_6 : decode cX4_removeAlone 6 = .ok (.aload_n 0, 1) := by decide +kernel
theorem dX4_removeAlone_7 : decode cX4_removeAlone 7 = .ok (.getfield 12, 3) := by decide +kernel
theorem dX4_removeAlone_10 : decode cX4_removeAlone 10 = .ok (.iload_n 2, 1) := by decide +kernel
theorem dX4_removeAlone_11 : decode cX4_removeAlone 11 = .ok (.invokevirtual 41, 3) := by decide +kernel
theorem dX4_removeAlone_14 : decode cX4_removeAlone 14 = .ok (.istore_n 3, 1) := by decide +kernel
theorem dX4_removeAlone_15 : decode cX4_removeAlone 15 = .ok (.aload_n 0, 1) := by decide +kernel
theorem dX4_removeAlone_16 : decode cX4_removeAlone 16 = .ok (.iload_n 1, 1) := by decide +kernel
theorem dX4_removeAlone_17 : decode cX4_removeAlone 17 = .ok (.iconst 1, 1) := by decide +kernel
theorem dX4_removeAlone_18 : decode cX4_removeAlone 18 = .ok (.invokevirtual 124, 3) := by decide +kernel
theorem dX4_removeAlone_21 : decode cX4_removeAlone 21 = .ok (.aload_n 0, 1) := by decide +kernel
theorem dX4_removeAlone_22 : decode cX4_removeAlone 22 = .ok (.getfield 12, 3) := by decide +kernel
theorem dX4_removeAlone_25 : decode cX4_removeAlone 25 = .ok (.iload_n 3, 1) := by decide +kernel
theorem dX4_removeAlone_26 : decode cX4_removeAlone 26 = .ok (.iconst 1, 1) := by decide +kernel
theorem dX4_removeAlone_27 : decode cX4_removeAlone 27 = .ok (.invokevirtual 127, 3) := by decide +kernel
theorem dX4_removeAlone_30 : decode cX4_removeAlone 30 = .ok (.aload_n 0, 1) := by decide +kernel
theorem dX4_removeAlone_31 : decode cX4_removeAlone 31 = .ok (.getfield 12, 3) := by decide +kernel
theorem dX4_removeAlone_34 : decode cX4_removeAlone 34 = .ok (.iload_n 2, 1) := by decide +kernel
theorem dX4_removeAlone_35 : decode cX4_removeAlone 35 = .ok (.iconst 1, 1) := by decide +kernel
theorem dX4_removeAlone_36 : decode cX4_removeAlone 36 = .ok (.invokevirtual 127, 3) := by decide +kernel
theorem dX4_removeAlone_39 : decode cX4_removeAlone 39 = .ok (.return_, 1) := by decide +kernel
set_option maxRecDepth 20000 in
theorem ggX4_moveSubtree_X4_nodesOf : GoodIn wsX4_moveSubtree wsX4_nodesOf := goodIn_r _ [12, 1, 13, 14, 15, 11, 16, 17, 18, 19, 20, 21, 22, 23, 24, 25, 26, 27, 28, 29, 30, 31, 32, 33, 34, 35, 36, 37, 38, 39, 40, 41, 42, 43, 44, 45, 46, 47, 48, 49, 50, 51, 52, 53, 54, 55, 56, 57, 58, 59, 60, 61, 62, 63, 64, 65, 66, 67, 68, 69, 70, 71, 72, 73, 74, 75, 76, 77, 78, 79, 80, 81, 82, 83, 84, 85, 86, 147, 148, 149, 150, 151, 152, 153, 154, 155] (by decide +kernel) (by decide +kernel)
set_option maxRecDepth 20000 in
theorem gX4_moveSubtree_X4_nodesOf : GoodIn wsX4_moveSubtree (wsV RX4 85 RX4 yX4_nodesOf wsX4_nodesOf) := goodIn_app (goodIn_of _ (by decide +kernel)) ggX4_moveSubtree_X4_nodesOf
set_option maxRecDepth 20000 in
theorem ggX4_moveSubtree_X4_openOf : GoodIn wsX4_moveSubtree wsX4_openOf := goodIn_r _ [16, 1, 17, 18, 19, 20, 21, 22, 23, 24, 25, 26, 27, 28, 29, 30, 31, 32, 33, 34, 35, 36, 37, 38, 39, 40, 41, 42, 43, 44, 45, 46, 47, 48, 49, 50, 51, 52, 53, 54, 55, 147, 148, 149, 150, 151, 152, 153, 154, 155] (by decide +kernel) (by decide +kernel)
set_option maxRecDepth 20000 in
theorem gX4_moveSubtree_X4_openOf : GoodIn wsX4_moveSubtree (wsV RX4 37 RX4 yX4_openOf wsX4_openOf) := goodIn_app (goodIn_of _ (by decide +kernel)) ggX4_moveSubtree_X4_openOf
set_option maxRecDepth 20000 in
theorem ggX4_moveSubtree_X1_takenLow : GoodIn wsX4_moveSubtree wsX1_takenLow := goodIn_r _ [90, 26, 29, 35, 36, 32, 37, 30, 31, 33, 34, 150, 151, 152, 153, 154, 155] (by decide +kernel) (by decide +kernel)
set_option maxRecDepth 20000 in
theorem gX4_moveSubtree_X1_takenLow : GoodIn wsX4_moveSubtree (wsV RX4 88 RX1 yX1_takenLow wsX1_takenLow) := goodIn_app (goodIn_of _ (by decide +kernel)) ggX4_moveSubtree_X1_takenLow
set_option maxRecDepth 20000 in
theorem ggX4_moveSubtree_X1_takenHigh : GoodIn wsX4_moveSubtree wsX1_takenHigh := goodIn_r _ [94, 29, 53, 54, 32, 55, 30, 31, 33, 34, 150, 151, 152, 153, 154, 155] (by decide +kernel) (by decide +kernel)
set_option maxRecDepth 20000 in
theorem gX4_moveSubtree_X1_takenHigh : GoodIn wsX4_moveSubtree (wsV RX4 92 RX1 yX1_takenHigh wsX1_takenHigh) := goodIn_app (goodIn_of _ (by decide +kernel)) ggX4_moveSubtree_X1_takenHigh
set_option maxRecDepth 20000 in
theorem ggX4_moveSubtree_X4_closeWeights : GoodIn wsX4_moveSubtree wsX4_closeWeights := goodIn_r _ [98, 2, 4, 5, 6, 7, 99, 100, 101, 11, 102, 1, 147, 148, 149, 150, 151, 152, 153, 154, 155] (by decide +kernel) (by decide +kernel)
set_option maxRecDepth 20000 in
theorem gX4_moveSubtree_X4_closeWeights : GoodIn wsX4_moveSubtree (wsV RX4 124 RX4 yX4_closeWeights wsX4_closeWeights) := goodIn_app (goodIn_of _ (by decide +kernel)) ggX4_moveSubtree_X4_closeWeights
set_option maxRecDepth 20000 in
theorem ggX4_moveSubtree_X1_remove : GoodIn wsX4_moveSubtree wsX1_remove := goodIn_r _ [106, 26, 29, 27, 28, 30, 31, 32, 33, 34, 35, 36, 37, 53, 54, 55, 107, 108, 109, 20, 110, 111, 112, 113, 114, 115, 116, 117, 118, 119, 120, 121, 72, 77, 78, 79, 80, 81, 82, 150, 151, 152, 153, 154, 155] (by decide +kernel) (by decide +kernel)
set_option maxRecDepth 20000 in
theorem gX4_moveSubtree_X1_remove : GoodIn wsX4_moveSubtree (wsV RX4 127 RX1 yX1_remove wsX1_remove) := goodIn_app (goodIn_of _ (by decide +kernel)) ggX4_moveSubtree_X1_remove
set_option maxRecDepth 20000 in
theorem ggX4_moveSubtree_X4_placeForChild : GoodIn wsX4_moveSubtree wsX4_placeForChild := goodIn_r _ [125, 1, 13, 14, 15, 11, 16, 17, 18, 19, 20, 21, 22, 23, 24, 25, 26, 27, 28, 29, 30, 31, 32, 33, 34, 35, 36, 37, 38, 39, 40, 41, 42, 43, 44, 45, 46, 47, 48, 49, 50, 51, 52, 53, 54, 55, 126, 65, 66, 67, 127, 61, 62, 63, 128, 69, 70, 71, 72, 64, 73, 74, 75, 76, 77, 78, 79, 80, 81, 82, 147, 148, 149, 150, 151, 152, 153, 154, 155] (by decide +kernel) (by decide +kernel)
set_option maxRecDepth 20000 in
theorem gX4_moveSubtree_X4_placeForChild : GoodIn wsX4_moveSubtree (wsV RX4 69 RX4 yX4_placeForChild wsX4_placeForChild) := goodIn_app (goodIn_of _ (by decide +kernel)) ggX4_moveSubtree_X4_placeForChild
set_option maxRecDepth 20000 in
theorem ggX4_moveSubtree_X1_opensAhead : GoodIn wsX4_moveSubtree wsX1_opensAhead := goodIn_r _ [132, 64, 65, 66, 20, 67, 26, 29, 30, 31, 32, 33, 34, 38, 39, 40, 41, 42, 43, 44, 150, 151, 152, 153, 154, 155] (by decide +kernel) (by decide +kernel)
set_option maxRecDepth 20000 in
theorem gX4_moveSubtree_X1_opensAhead : GoodIn wsX4_moveSubtree (wsV RX4 47 RX1 yX1_opensAhead wsX1_opensAhead) := goodIn_app (goodIn_of _ (by decide +kernel)) ggX4_moveSubtree_X1_opensAhead
set_option maxRecDepth 20000 in
theorem ggX4_moveSubtree_X4_openWeights : GoodIn wsX4_moveSubtree wsX4_openWeights := goodIn_r _ [136, 2, 4, 5, 6, 7, 99, 100, 101, 11, 102, 1, 147, 148, 149, 150, 151, 152, 153, 154, 155] (by decide +kernel) (by decide +kernel)
set_option maxRecDepth 20000 in
theorem gX4_moveSubtree_X4_openWeights : GoodIn wsX4_moveSubtree (wsV RX4 116 RX4 yX4_openWeights wsX4_openWeights) := goodIn_app (goodIn_of _ (by decide +kernel)) ggX4_moveSubtree_X4_openWeights
set_option maxRecDepth 20000 in
theorem ggX4_moveSubtree_X1_insert : GoodIn wsX4_moveSubtree wsX1_insert := goodIn_r _ [140, 26, 27, 29, 28, 30, 31, 32, 33, 34, 141, 142, 143, 144, 145, 146, 107, 108, 109, 20, 110, 111, 112, 113, 114, 115, 116, 117, 118, 119, 120, 121, 72, 77, 78, 79, 80, 81, 82, 150, 151, 152, 153, 154, 155] (by decide +kernel) (by decide +kernel)
set_option maxRecDepth 20000 in
theorem gX4_moveSubtree_X1_insert : GoodIn wsX4_moveSubtree (wsV RX4 120 RX1 yX1_insert wsX1_insert) := goodIn_app (goodIn_of _ (by decide +kernel)) ggX4_moveSubtree_X1_insert
theorem dX4_moveSubtree_0 : decode cX4_moveSubtree 0 = .ok (.aload_n 0, 1) := by decide +kernel
theorem dX4_moveSubtree_1 : decode cX4_moveSubtree 1 = .ok (.iload_n 1, 1) := by decide +kernel
theorem dX4_moveSubtree_2 : decode cX4_moveSubtree 2 = .ok (.invokevirtual 85, 3) := by decide +kernel
theorem dX4_moveSubtree_5 : decode cX4_moveSubtree 5 = .ok (.istore 4, 2) := by decide +kernel
theorem dX4_moveSubtree_7 : decode cX4_moveSubtree 7 = .ok (.aload_n 0, 1) := by decide +kernel
theorem dX4_moveSubtree_8 : decode cX4_moveSubtree 8 = .ok (.iload_n 1, 1) := by decide +kernel
theorem dX4_moveSubtree_9 : decode cX4_moveSubtree 9 = .ok (.invokevirtual 37, 3) := by decide +kernel
theorem dX4_moveSubtree_12 : decode cX4_moveSubtree 12 = .ok (.istore 5, 2) := by decide +kernel
theorem dX4_moveSubtree_14 : decode cX4_moveSubtree 14 = .ok (.aload_n 0, 1) := by decide +kernel
theorem dX4_moveSubtree_15 : decode cX4_moveSubtree 15 = .ok (.getfield 12, 3) := by decide +kernel
theorem dX4_moveSubtree_18 : decode cX4_moveSubtree 18 = .ok (.iload 5, 2) := by decide +kernel
theorem dX4_moveSubtree_20 : decode cX4_moveSubtree 20 = .ok (.iconst 2, 1) := by decide +kernel
theorem dX4_moveSubtree_21 : decode cX4_moveSubtree 21 = .ok (.iload 4, 2) := by decide +kernel
theorem dX4_moveSubtree_23 : decode cX4_moveSubtree 23 = .ok (.imul, 1) := by decide +kernel
theorem dX4_moveSubtree_24 : decode cX4_moveSubtree 24 = .ok (.invokevirtual 88, 3) := by decide +kernel
theorem dX4_moveSubtree_27 : decode cX4_moveSubtree 27 = .ok (.lstore 6, 2) := by decide +kernel
theorem dX4_moveSubtree_29 : decode cX4_moveSubtree 29 = .ok (.aload_n 0, 1) := by decide +kernel
theorem dX4_moveSubtree_30 : decode cX4_moveSubtree 30 = .ok (.getfield 12, 3) := by decide +kernel
theorem dX4_moveSubtree_33 : decode cX4_moveSubtree 33 = .ok (.iload 5, 2) := by decide +kernel
theorem dX4_moveSubtree_35 : decode cX4_moveSubtree 35 = .ok (.iconst 2, 1) := by decide +kernel
theorem dX4_moveSubtree_36 : decode cX4_moveSubtree 36 = .ok (.iload 4, 2) := by decide +kernel
theorem dX4_moveSubtree_38 : decode cX4_moveSubtree 38 = .ok (.imul, 1) := by decide +kernel
theorem dX4_moveSubtree_39 : decode cX4_moveSubtree 39 = .ok (.invokevirtual 92, 3) := by decide +kernel
theorem dX4_moveSubtree_42 : decode cX4_moveSubtree 42 = .ok (.lstore 8, 2) := by decide +kernel
theorem dX4_moveSubtree_44 : decode cX4_moveSubtree 44 = .ok (.aload_n 0, 1) := by decide +kernel
theorem dX4_moveSubtree_45 : decode cX4_moveSubtree 45 = .ok (.getfield 18, 3) := by decide +kernel
theorem dX4_moveSubtree_48 : decode cX4_moveSubtree 48 = .ok (.iload_n 1, 1) := by decide +kernel
theorem dX4_moveSubtree_49 : decode cX4_moveSubtree 49 = .ok (.aload_n 0, 1) := by decide +kernel
theorem dX4_moveSubtree_50 : decode cX4_moveSubtree 50 = .ok (.getfield 22, 3) := by decide +kernel
theorem dX4_moveSubtree_53 : decode cX4_moveSubtree 53 = .ok (.iconst 0, 1) := by decide +kernel
theorem dX4_moveSubtree_54 : decode cX4_moveSubtree 54 = .ok (.iload 4, 2) := by decide +kernel
theorem dX4_moveSubtree_56 : decode cX4_moveSubtree 56 = .ok (.invokestatic 110, 3) := by decide +kernel
theorem dX4_moveSubtree_59 : decode cX4_moveSubtree 59 = .ok (.aload_n 0, 1) := by decide +kernel
theorem dX4_moveSubtree_60 : decode cX4_moveSubtree 60 = .ok (.iload_n 1, 1) := by decide +kernel
theorem dX4_moveSubtree_61 : decode cX4_moveSubtree 61 = .ok (.iload 4, 2) := by decide +kernel
theorem dX4_moveSubtree_63 : decode cX4_moveSubtree 63 = .ok (.invokevirtual 124, 3) := by decide +kernel
theorem dX4_moveSubtree_66 : decode cX4_moveSubtree 66 = .ok (.aload_n 0, 1) := by decide +kernel
theorem dX4_moveSubtree_67 : decode cX4_moveSubtree 67 = .ok (.getfield 12, 3) := by decide +kernel
theorem dX4_moveSubtree_70 : decode cX4_moveSubtree 70 = .ok (.iload 5, 2) := by decide +kernel
theorem dX4_moveSubtree_72 : decode cX4_moveSubtree 72 = .ok (.iconst 2, 1) := by decide +kernel
theorem dX4_moveSubtree_73 : decode cX4_moveSubtree 73 = .ok (.iload 4, 2) := by decide +kernel
theorem dX4_moveSubtree_75 : decode cX4_moveSubtree 75 = .ok (.imul, 1) := by decide +kernel
theorem dX4_moveSubtree_76 : decode cX4_moveSubtree 76 = .ok (.invokevirtual 127, 3) := by decide +kernel
theorem dX4_moveSubtree_79 : decode cX4_moveSubtree 79 = .ok (.aload_n 0, 1) := by decide +kernel
theorem dX4_moveSubtree_80 : decode cX4_moveSubtree 80 = .ok (.iload_n 2, 1) := by decide +kernel
theorem dX4_moveSubtree_81 : decode cX4_moveSubtree 81 = .ok (.iload_n 1, 1) := by decide +kernel
theorem dX4_moveSubtree_82 : decode cX4_moveSubtree 82 = .ok (.if_icmp .le 10, 3) := by decide +kernel
theorem dX4_moveSubtree_85 : decode cX4_moveSubtree 85 = .ok (.iload_n 2, 1) := by decide +kernel
theorem dX4_moveSubtree_86 : decode cX4_moveSubtree 86 = .ok (.iload 4, 2) := by decide +kernel
theorem dX4_moveSubtree_88 : decode cX4_moveSubtree 88 = .ok (.isub, 1) := by decide +kernel
theorem dX4_moveSubtree_89 : decode cX4_moveSubtree 89 = .ok (.goto 4, 3) := by decide +kernel
theorem dX4_moveSubtree_92 : decode cX4_moveSubtree 92 = .ok (.iload_n 2, 1) := by decide +kernel
theorem dX4_moveSubtree_93 : decode cX4_moveSubtree 93 = .ok (.iload_n 3, 1) := by decide +kernel
theorem dX4_moveSubtree_94 : decode cX4_moveSubtree 94 = .ok (.invokevirtual 69, 3) := by decide +kernel
theorem dX4_moveSubtree_97 : decode cX4_moveSubtree 97 = .ok (.istore 10, 2) := by decide +kernel
theorem dX4_moveSubtree_99 : decode cX4_moveSubtree 99 = .ok (.aload_n 0, 1) := by decide +kernel
theorem dX4_moveSubtree_100 : decode cX4_moveSubtree 100 = .ok (.getfield 12, 3) := by decide +kernel
theorem dX4_moveSubtree_103 : decode cX4_moveSubtree 103 = .ok (.iload 10, 2) := by decide +kernel
theorem dX4_moveSubtree_105 : decode cX4_moveSubtree 105 = .ok (.invokevirtual 47, 3) := by decide +kernel
theorem dX4_moveSubtree_108 : decode cX4_moveSubtree 108 = .ok (.istore 11, 2) := by decide +kernel
theorem dX4_moveSubtree_110 : decode cX4_moveSubtree 110 = .ok (.aload_n 0, 1) := by decide +kernel
theorem dX4_moveSubtree_111 : decode cX4_moveSubtree 111 = .ok (.iload 11, 2) := by decide +kernel
theorem dX4_moveSubtree_113 : decode cX4_moveSubtree 113 = .ok (.iload 4, 2) := by decide +kernel
theorem dX4_moveSubtree_115 : decode cX4_moveSubtree 115 = .ok (.invokevirtual 116, 3) := by decide +kernel
theorem dX4_moveSubtree_118 : decode cX4_moveSubtree 118 = .ok (.aload_n 0, 1) := by decide +kernel
theorem dX4_moveSubtree_119 : decode cX4_moveSubtree 119 = .ok (.getfield 22, 3) := by decide +kernel
theorem dX4_moveSubtree_122 : decode cX4_moveSubtree 122 = .ok (.iconst 0, 1) := by decide +kernel
theorem dX4_moveSubtree_123 : decode cX4_moveSubtree 123 = .ok (.aload_n 0, 1) := by decide +kernel
theorem dX4_moveSubtree_124 : decode cX4_moveSubtree 124 = .ok (.getfield 18, 3) := by decide +kernel
theorem dX4_moveSubtree_127 : decode cX4_moveSubtree 127 = .ok (.iload 11, 2) := by decide +kernel
theorem dX4_moveSubtree_129 : decode cX4_moveSubtree 129 = .ok (.iload 4, 2) := by decide +kernel
theorem dX4_moveSubtree_131 : decode cX4_moveSubtree 131 = .ok (.invokestatic 110, 3) := by decide +kernel
theorem dX4_moveSubtree_134 : decode cX4_moveSubtree 134 = .ok (.aload_n 0, 1) := by decide +kernel
theorem dX4_moveSubtree_135 : decode cX4_moveSubtree 135 = .ok (.getfield 12, 3) := by decide +kernel
theorem dX4_moveSubtree_138 : decode cX4_moveSubtree 138 = .ok (.iload 10, 2) := by decide +kernel
theorem dX4_moveSubtree_140 : decode cX4_moveSubtree 140 = .ok (.iconst 2, 1) := by decide +kernel
theorem dX4_moveSubtree_141 : decode cX4_moveSubtree 141 = .ok (.iload 4, 2) := by decide +kernel
theorem dX4_moveSubtree_143 : decode cX4_moveSubtree 143 = .ok (.imul, 1) := by decide +kernel
theorem dX4_moveSubtree_144 : decode cX4_moveSubtree 144 = .ok (.lload 6, 2) := by decide +kernel
theorem dX4_moveSubtree_146 : decode cX4_moveSubtree 146 = .ok (.lload 8, 2) := by decide +kernel
theorem dX4_moveSubtree_148 : decode cX4_moveSubtree 148 = .ok (.invokevirtual 120, 3) := by decide +kernel
theorem dX4_moveSubtree_151 : decode cX4_moveSubtree 151 = .ok (.iload 11, 2) := by decide +kernel
theorem dX4_moveSubtree_153 : decode cX4_moveSubtree 153 = .ok (.ireturn, 1) := by decide +kernel
set_option maxRecDepth 20000 in
theorem ggX4_become_X1_become : GoodIn wsX4_become wsX1_become := goodIn_r _ [11, 12, 13, 14, 15, 16, 4, 5, 6, 17, 18, 22, 23, 24, 25, 26, 27] (by decide +kernel) (by decide +kernel)
set_option maxRecDepth 20000 in
theorem gX4_become_X1_become : GoodIn wsX4_become (wsV RX4 130 RX1 yX1_become wsX1_become) := goodIn_app (goodIn_of _ (by decide +kernel)) ggX4_become_X1_become
theorem dX4_become_0 : decode cX4_become 0 = .ok (.aload_n 0, 1) := by decide +kernel
theorem dX4_become_1 : decode cX4_become 1 = .ok (.getfield 12, 3) := by decide +kernel
theorem dX4_become_4 : decode cX4_become 4 = .ok (.aload_n 1, 1) := by decide +kernel
theorem dX4_become_5 : decode cX4_become 5 = .ok (.getfield 12, 3) := by decide +kernel
theorem dX4_become_8 : decode cX4_become 8 = .ok (.invokevirtual 130, 3) := by decide +kernel
theorem dX4_become_11 : decode cX4_become 11 = .ok (.aload_n 1, 1) := by decide +kernel
theorem dX4_become_12 : decode cX4_become 12 = .ok (.getfield 18, 3) := by decide +kernel
theorem dX4_become_15 : decode cX4_become 15 = .ok (.iconst 0, 1) := by decide +kernel
theorem dX4_become_16 : decode cX4_become 16 = .ok (.aload_n 0, 1) := by decide +kernel
theorem dX4_become_17 : decode cX4_become 17 = .ok (.getfield 18, 3) := by decide +kernel
theorem dX4_become_20 : decode cX4_become 20 = .ok (.iconst 0, 1) := by decide +kernel
theorem dX4_become_21 : decode cX4_become 21 = .ok (.bipush 64, 2) := by decide +kernel
theorem dX4_become_23 : decode cX4_become 23 = .ok (.invokestatic 110, 3) := by decide +kernel
theorem dX4_become_26 : decode cX4_become 26 = .ok (.return_, 1) := by decide +kernel
set_option maxRecDepth 20000 in
theorem ggX5_init_X4_init : GoodIn wsX5_init wsX4_init := goodIn_r _ [21, 22, 2, 3, 23, 24, 25, 26, 27, 28, 29, 30, 31, 32, 33, 34, 35, 66, 67, 68, 69, 70, 71, 47, 48, 49] (by decide +kernel) (by decide +kernel)
set_option maxRecDepth 20000 in
theorem gX5_init_X4_init_n11 : GoodIn wsX5_init (wsX4_init) := ggX5_init_X4_init
set_option maxRecDepth 20000 in
theorem ggX5_init_X3_init : GoodIn wsX5_init wsX3_init := goodIn_r _ [37, 38, 2, 3, 39, 40, 57, 58, 59, 60, 61, 62] (by decide +kernel) (by decide +kernel)
set_option maxRecDepth 20000 in
theorem gX5_init_X3_init_n29 : GoodIn wsX5_init (wsX3_init) := ggX5_init_X3_init
set_option maxRecDepth 20000 in
theorem ggX5_init_X2_init : GoodIn wsX5_init wsX2_init := goodIn_r _ [42, 43, 2, 3, 44, 45, 46, 63, 64, 65] (by decide +kernel) (by decide +kernel)
set_option maxRecDepth 20000 in
theorem gX5_init_X2_init_n40 : GoodIn wsX5_init (wsX2_init) := ggX5_init_X2_init
theorem dX5_init_0 : decode cX5_init 0 = .ok (.aload_n 0, 1) := by decide +kernel
theorem dX5_init_1 : decode cX5_init 1 = .ok (.invokespecial 3, 3) := by decide +kernel
theorem dX5_init_4 : decode cX5_init 4 = .ok (.aload_n 0, 1) := by decide +kernel
theorem dX5_init_5 : decode cX5_init 5 = .ok (.new 9, 3) := by decide +kernel
theorem dX5_init_8 : decode cX5_init 8 = .ok (.dup, 1) := by decide +kernel
theorem dX5_init_9 : decode cX5_init 9 = .ok (.invokespecial 11, 3) := by decide +kernel
theorem dX5_init_12 : decode cX5_init 12 = .ok (.putfield 12, 3) := by decide +kernel
theorem dX5_init_15 : decode cX5_init 15 = .ok (.aload_n 0, 1) := by decide +kernel
theorem dX5_init_16 : decode cX5_init 16 = .ok (.new 9, 3) := by decide +kernel
theorem dX5_init_19 : decode cX5_init 19 = .ok (.dup, 1) := by decide +kernel
theorem dX5_init_20 : decode cX5_init 20 = .ok (.invokespecial 11, 3) := by decide +kernel
theorem dX5_init_23 : decode cX5_init 23 = .ok (.putfield 16, 3) := by decide +kernel
theorem dX5_init_26 : decode cX5_init 26 = .ok (.aload_n 0, 1) := by decide +kernel
theorem dX5_init_27 : decode cX5_init 27 = .ok (.iconst 2, 1) := by decide +kernel
theorem dX5_init_28 : decode cX5_init 28 = .ok (.anewarray 9, 3) := by decide +kernel
theorem dX5_init_31 : decode cX5_init 31 = .ok (.putfield 19, 3) := by decide +kernel
theorem dX5_init_34 : decode cX5_init 34 = .ok (.aload_n 0, 1) := by decide +kernel
theorem dX5_init_35 : decode cX5_init 35 = .ok (.iconst 2, 1) := by decide +kernel
theorem dX5_init_36 : decode cX5_init 36 = .ok (.newarray .boolean, 2) := by decide +kernel
theorem dX5_init_38 : decode cX5_init 38 = .ok (.putfield 23, 3) := by decide +kernel
theorem dX5_init_41 : decode cX5_init 41 = .ok (.aload_n 0, 1) := by decide +kernel
theorem dX5_init_42 : decode cX5_init 42 = .ok (.new 27, 3) := by decide +kernel
theorem dX5_init_45 : decode cX5_init 45 = .ok (.dup, 1) := by decide +kernel
theorem dX5_init_46 : decode cX5_init 46 = .ok (.invokespecial 29, 3) := by decide +kernel
theorem dX5_init_49 : decode cX5_init 49 = .ok (.putfield 30, 3) := by decide +kernel
theorem dX5_init_52 : decode cX5_init 52 = .ok (.aload_n 0, 1) := by decide +kernel
theorem dX5_init_53 : decode cX5_init 53 = .ok (.iconst 4, 1) := by decide +kernel
theorem dX5_init_54 : decode cX5_init 54 = .ok (.anewarray 34, 3) := by decide +kernel
theorem dX5_init_57 : decode cX5_init 57 = .ok (.putfield 36, 3) := by decide +kernel
theorem dX5_init_60 : decode cX5_init 60 = .ok (.iconst 0, 1) := by decide +kernel
theorem dX5_init_61 : decode cX5_init 61 = .ok (.istore_n 1, 1) := by decide +kernel
theorem dX5_init_62 : decode cX5_init 62 = .ok (.iload_n 1, 1) := by decide +kernel
theorem dX5_init_63 : decode cX5_init 63 = .ok (.iconst 2, 1) := by decide +kernel
theorem dX5_init_64 : decode cX5_init 64 = .ok (.if_icmp .ge 22, 3) := by decide +kernel
theorem dX5_init_67 : decode cX5_init 67 = .ok (.aload_n 0, 1) := by decide +kernel
theorem dX5_init_68 : decode cX5_init 68 = .ok (.getfield 19, 3) := by decide +kernel
theorem dX5_init_71 : decode cX5_init 71 = .ok (.iload_n 1, 1) := by decide +kernel
theorem dX5_init_72 : decode cX5_init 72 = .ok (.new 9, 3) := by decide +kernel
theorem dX5_init_75 : decode cX5_init 75 = .ok (.dup, 1) := by decide +kernel
theorem dX5_init_76 : decode cX5_init 76 = .ok (.invokespecial 11, 3) := by decide +kernel
theorem dX5_init_79 : decode cX5_init 79 = .ok (.aastore, 1) := by decide +kernel
theorem dX5_init_80 : decode cX5_init 80 = .ok (.iinc 1 1, 3) := by decide +kernel
theorem dX5_init_83 : decode cX5_init 83 = .ok (.goto (-21), 3) := by decide +kernel
theorem dX5_init_86 : decode cX5_init 86 = .ok (.iconst 0, 1) := by decide +kernel
theorem dX5_init_87 : decode cX5_init 87 = .ok (.istore_n 1, 1) := by decide +kernel
theorem dX5_init_88 : decode cX5_init 88 = .ok (.iload_n 1, 1) := by decide +kernel
theorem dX5_init_89 : decode cX5_init 89 = .ok (.iconst 4, 1) := by decide +kernel
theorem dX5_init_90 : decode cX5_init 90 = .ok (.if_icmp .ge 22, 3) := by decide +kernel
theorem dX5_init_93 : decode cX5_init 93 = .ok (.aload_n 0, 1) := by decide +kernel
theorem dX5_init_94 : decode cX5_init 94 = .ok (.getfield 36, 3) := by decide +kernel
theorem dX5_init_97 : decode cX5_init 97 = .ok (.iload_n 1, 1) := by decide +kernel
theorem dX5_init_98 : decode cX5_init 98 = .ok (.new 34, 3) := by decide +kernel
theorem dX5_init_101 : decode cX5_init 101 = .ok (.dup, 1) := by decide +kernel
theorem dX5_init_102 : decode cX5_init 102 = .ok (.invokespecial 40, 3) := by decide +kernel
theorem dX5_init_105 : decode cX5_init 105 = .ok (.aastore, 1) := by decide +kernel
theorem dX5_init_106 : decode cX5_init 106 = .ok (.iinc 1 1, 3) := by decide +kernel
theorem dX5_init_109 : decode cX5_init 109 = .ok (.goto (-21), 3) := by decide +kernel
theorem dX5_init_112 : decode cX5_init 112 = .ok (.return_, 1) := by decide +kernel
set_option maxRecDepth 20000 in
theorem ggX5_feed_X5_within : GoodIn wsX5_feed wsX5_within := goodIn_r _ [5] (by decide +kernel) (by decide +kernel)
set_option maxRecDepth 20000 in
theorem gX5_feed_X5_within : GoodIn wsX5_feed (va_wsS RX5 41 yX5_within wsX5_within) := goodIn_app (goodIn_of _ (by decide +kernel)) ggX5_feed_X5_within
set_option maxRecDepth 20000 in
theorem ggX5_feed_X3_put : GoodIn wsX5_feed wsX3_put := goodIn_r _ [10, 11, 12, 20, 21, 22, 23, 24, 25] (by decide +kernel) (by decide +kernel)
set_option maxRecDepth 20000 in
theorem gX5_feed_X3_put : GoodIn wsX5_feed (wsV RX5 45 RX3 yX3_put wsX3_put) := goodIn_app (goodIn_of _ (by decide +kernel)) ggX5_feed_X3_put
theorem dX5_feed_0 : decode cX5_feed 0 = .ok (.iload_n 1, 1) := by decide +kernel
theorem dX5_feed_1 : decode cX5_feed 1 = .ok (.iconst 0, 1) := by decide +kernel
theorem dX5_feed_2 : decode cX5_feed 2 = .ok (.bipush 127, 2) := by decide +kernel
theorem dX5_feed_4 : decode cX5_feed 4 = .ok (.invokestatic 41, 3) := by decide +kernel
theorem dX5_feed_7 : decode cX5_feed 7 = .ok (.ifCond .ne 5, 3) := by decide +kernel
theorem dX5_feed_10 : decode cX5_feed 10 = .ok (.iconst (-1), 1) := by decide +kernel
theorem dX5_feed_11 : decode cX5_feed 11 = .ok (.ireturn, 1) := by decide +kernel
theorem dX5_feed_12 : decode cX5_feed 12 = .ok (.aload_n 0, 1) := by decide +kernel
theorem dX5_feed_13 : decode cX5_feed 13 = .ok (.getfield 30, 3) := by decide +kernel
theorem dX5_feed_16 : decode cX5_feed 16 = .ok (.iload_n 1, 1) := by decide +kernel
theorem dX5_feed_17 : decode cX5_feed 17 = .ok (.invokevirtual 45, 3) := by decide +kernel
theorem dX5_feed_20 : decode cX5_feed 20 = .ok (.ifCond .eq 13, 3) := by decide +kernel
theorem dX5_feed_23 : decode cX5_feed 23 = .ok (.aload_n 0, 1) := by decide +kernel
theorem dX5_feed_24 : decode cX5_feed 24 = .ok (.getfield 30, 3) := by decide +kernel
theorem dX5_feed_27 : decode cX5_feed 27 = .ok (.getfield 49, 3) := by decide +kernel
theorem dX5_feed_30 : decode cX5_feed 30 = .ok (.goto 5, 3) := by decide +kernel
theorem dX5_feed_33 : decode cX5_feed 33 = .ok (.bipush (-3), 2) := by decide +kernel
theorem dX5_feed_35 : decode cX5_feed 35 = .ok (.ireturn, 1) := by decide +kernel
set_option maxRecDepth 20000 in
theorem ggX5_end_X5_within : GoodIn wsX5_end wsX5_within := goodIn_r _ [5] (by decide +kernel) (by decide +kernel)
set_option maxRecDepth 20000 in
theorem gX5_end_X5_within : GoodIn wsX5_end (va_wsS RX5 41 yX5_within wsX5_within) := goodIn_app (goodIn_of _ (by decide +kernel)) ggX5_end_X5_within
theorem dX5_end_0 : decode cX5_end 0 = .ok (.iload_n 1, 1) := by decide +kernel
theorem dX5_end_1 : decode cX5_end 1 = .ok (.iconst 0, 1) := by decide +kernel
theorem dX5_end_2 : decode cX5_end 2 = .ok (.aload_n 0, 1) := by decide +kernel
theorem dX5_end_3 : decode cX5_end 3 = .ok (.getfield 30, 3) := by decide +kernel
theorem dX5_end_6 : decode cX5_end 6 = .ok (.getfield 49, 3) := by decide +kernel
theorem dX5_end_9 : decode cX5_end 9 = .ok (.invokestatic 41, 3) := by decide +kernel
theorem dX5_end_12 : decode cX5_end 12 = .ok (.ifCond .ne 5, 3) := by decide +kernel
theorem dX5_end_15 : decode cX5_end 15 = .ok (.iconst (-1), 1) := by decide +kernel
theorem dX5_end_16 : decode cX5_end 16 = .ok (.ireturn, 1) := by decide +kernel
theorem dX5_end_17 : decode cX5_end 17 = .ok (.aload_n 0, 1) := by decide +kernel
theorem dX5_end_18 : decode cX5_end 18 = .ok (.getfield 30, 3) := by decide +kernel
theorem dX5_end_21 : decode cX5_end 21 = .ok (.getfield 49, 3) := by decide +kernel
theorem dX5_end_24 : decode cX5_end 24 = .ok (.istore_n 2, 1) := by decide +kernel
theorem dX5_end_25 : decode cX5_end 25 = .ok (.aload_n 0, 1) := by decide +kernel
theorem dX5_end_26 : decode cX5_end 26 = .ok (.getfield 30, 3) := by decide +kernel
theorem dX5_end_29 : decode cX5_end 29 = .ok (.iload_n 1, 1) := by decide +kernel
theorem dX5_end_30 : decode cX5_end 30 = .ok (.putfield 49, 3) := by decide +kernel
theorem dX5_end_33 : decode cX5_end 33 = .ok (.iload_n 2, 1) := by decide +kernel
theorem dX5_end_34 : decode cX5_end 34 = .ok (.ireturn, 1) := by decide +kernel
set_option maxRecDepth 20000 in
theorem ggX5_text_X3_tell : GoodIn wsX5_text wsX3_tell := goodIn_r _ [9, 10, 11, 12, 13, 14, 15, 16, 17, 18, 19, 20, 21, 22, 23, 8, 24, 25, 26, 27, 28, 29, 30, 31, 32, 33, 34, 35, 36, 37, 38, 39, 40, 41, 42, 43, 44, 45, 46, 47, 48, 49, 50, 51, 52, 53, 54, 55, 56, 57, 58, 59, 60, 61, 62, 63, 64, 65, 66, 67, 68, 69, 70, 71, 72, 73, 74, 75, 76, 77, 78, 79, 80, 81, 82, 83, 84, 85, 86, 87, 88, 89, 123, 124, 125, 117, 118, 119, 120, 121, 122, 126, 127, 128, 129, 130, 131] (by decide +kernel) (by decide +kernel)
set_option maxRecDepth 20000 in
theorem gX5_text_X3_tell : GoodIn wsX5_text (wsV RX5 53 RX3 yX3_tell wsX3_tell) := goodIn_app (goodIn_of _ (by decide +kernel)) ggX5_text_X3_tell
set_option maxRecDepth 20000 in
theorem ggX5_text_X4_become : GoodIn wsX5_text wsX4_become := goodIn_r _ [94, 95, 96, 97, 98, 99, 100, 101, 102, 103, 16, 104, 18, 19, 20, 83, 105, 84, 85, 123, 124, 125, 126, 127, 128, 129, 130, 131] (by decide +kernel) (by decide +kernel)
set_option maxRecDepth 20000 in
theorem gX5_text_X4_become : GoodIn wsX5_text (wsV RX5 63 RX4 yX4_become wsX4_become) := goodIn_app (goodIn_of _ (by decide +kernel)) ggX5_text_X4_become
set_option maxRecDepth 20000 in
theorem ggX5_text_X4_nodes : GoodIn wsX5_text wsX4_nodes := goodIn_r _ [109, 95, 123, 124, 125, 126, 127, 128, 129, 130, 131] (by decide +kernel) (by decide +kernel)
set_option maxRecDepth 20000 in
theorem gX5_text_X4_nodes : GoodIn wsX5_text (wsV RX5 66 RX4 yX4_nodes wsX4_nodes) := goodIn_app (goodIn_of _ (by decide +kernel)) ggX5_text_X4_nodes
theorem dX5_text_0 : decode cX5_text 0 = .ok (.aload_n 0, 1) := by decide +kernel
theorem dX5_text_1 : decode cX5_text 1 = .ok (.getfield 30, 3) := by decide +kernel
theorem dX5_text_4 : decode cX5_text 4 = .ok (.aload_n 0, 1) := by decide +kernel
theorem dX5_text_5 : decode cX5_text 5 = .ok (.getfield 16, 3) := by decide +kernel
theorem dX5_text_8 : decode cX5_text 8 = .ok (.invokevirtual 53, 3) := by decide +kernel
theorem dX5_text_11 : decode cX5_text 11 = .ok (.aload_n 0, 1) := by decide +kernel
theorem dX5_text_12 : decode cX5_text 12 = .ok (.getfield 30, 3) := by decide +kernel
theorem dX5_text_15 : decode cX5_text 15 = .ok (.iconst 0, 1) := by decide +kernel
theorem dX5_text_16 : decode cX5_text 16 = .ok (.putfield 49, 3) := by decide +kernel
theorem dX5_text_19 : decode cX5_text 19 = .ok (.aload_n 0, 1) := by decide +kernel
theorem dX5_text_20 : decode cX5_text 20 = .ok (.getfield 30, 3) := by decide +kernel
theorem dX5_text_23 : decode cX5_text 23 = .ok (.getfield 57, 3) := by decide +kernel
theorem dX5_text_26 : decode cX5_text 26 = .ok (.ifCond .eq 14, 3) := by decide +kernel
theorem dX5_text_29 : decode cX5_text 29 = .ok (.bipush (-10), 2) := by decide +kernel
theorem dX5_text_31 : decode cX5_text 31 = .ok (.aload_n 0, 1) := by decide +kernel
theorem dX5_text_32 : decode cX5_text 32 = .ok (.getfield 30, 3) := by decide +kernel
theorem dX5_text_35 : decode cX5_text 35 = .ok (.getfield 60, 3) := by decide +kernel
theorem dX5_text_38 : decode cX5_text 38 = .ok (.isub, 1) := by decide +kernel
theorem dX5_text_39 : decode cX5_text 39 = .ok (.ireturn, 1) := by decide +kernel
theorem dX5_text_40 : decode cX5_text 40 = .ok (.aload_n 0, 1) := by decide +kernel
theorem dX5_text_41 : decode cX5_text 41 = .ok (.getfield 12, 3) := by decide +kernel
theorem dX5_text_44 : decode cX5_text 44 = .ok (.aload_n 0, 1) := by decide +kernel
theorem dX5_text_45 : decode cX5_text 45 = .ok (.getfield 16, 3) := by decide +kernel
theorem dX5_text_48 : decode cX5_text 48 = .ok (.invokevirtual 63, 3) := by decide +kernel
theorem dX5_text_51 : decode cX5_text 51 = .ok (.iconst 0, 1) := by decide +kernel
theorem dX5_text_52 : decode cX5_text 52 = .ok (.istore_n 1, 1) := by decide +kernel
theorem dX5_text_53 : decode cX5_text 53 = .ok (.iload_n 1, 1) := by decide +kernel
theorem dX5_text_54 : decode cX5_text 54 = .ok (.iconst 2, 1) := by decide +kernel
theorem dX5_text_55 : decode cX5_text 55 = .ok (.if_icmp .ge 16, 3) := by decide +kernel
theorem dX5_text_58 : decode cX5_text 58 = .ok (.aload_n 0, 1) := by decide +kernel
theorem dX5_text_59 : decode cX5_text 59 = .ok (.getfield 23, 3) := by decide +kernel
theorem dX5_text_62 : decode cX5_text 62 = .ok (.iload_n 1, 1) := by decide +kernel
theorem dX5_text_63 : decode cX5_text 63 = .ok (.iconst 0, 1) := by decide +kernel
theorem dX5_text_64 : decode cX5_text 64 = .ok (.bastore, 1) := by decide +kernel
theorem dX5_text_65 : decode cX5_text 65 = .ok (.iinc 1 1, 3) := by decide +kernel
theorem dX5_text_68 : decode cX5_text 68 = .ok (.goto (-15), 3) := by decide +kernel
theorem dX5_text_71 : decode cX5_text 71 = .ok (.aload_n 0, 1) := by decide +kernel
theorem dX5_text_72 : decode cX5_text 72 = .ok (.getfield 12, 3) := by decide +kernel
theorem dX5_text_75 : decode cX5_text 75 = .ok (.invokevirtual 66, 3) := by decide +kernel
theorem dX5_text_78 : decode cX5_text 78 = .ok (.ireturn, 1) := by decide +kernel
theorem dX5_fault_0 : decode cX5_fault 0 = .ok (.aload_n 0, 1) := by decide +kernel
theorem dX5_fault_1 : decode cX5_fault 1 = .ok (.getfield 30, 3) := by decide +kernel
theorem dX5_fault_4 : decode cX5_fault 4 = .ok (.getfield 57, 3) := by decide +kernel
theorem dX5_fault_7 : decode cX5_fault 7 = .ok (.ireturn, 1) := by decide +kernel
set_option maxRecDepth 20000 in
theorem ggX5_size_X4_nodes : GoodIn wsX5_size wsX4_nodes := goodIn_r _ [6, 7, 113, 114, 115, 116, 117, 118, 119, 120, 121] (by decide +kernel) (by decide +kernel)
set_option maxRecDepth 20000 in
theorem gX5_size_X4_nodes : GoodIn wsX5_size (wsV RX5 66 RX4 yX4_nodes wsX4_nodes) := goodIn_app (goodIn_of _ (by decide +kernel)) ggX5_size_X4_nodes
set_option maxRecDepth 20000 in
theorem ggX5_size_X1_signsAhead : GoodIn wsX5_size wsX1_signsAhead := goodIn_r _ [12, 13, 14, 15, 11, 16, 17, 18, 19, 20, 21, 22, 23, 24, 25, 26, 27, 28, 29, 30, 31, 32, 33, 34, 35, 36, 37, 38, 39, 40, 41, 42, 116, 117, 118, 119, 120, 121] (by decide +kernel) (by decide +kernel)
set_option maxRecDepth 20000 in
theorem gX5_size_X1_signsAhead : GoodIn wsX5_size (wsV RX5 79 RX1 yX1_signsAhead wsX1_signsAhead) := goodIn_app (goodIn_of _ (by decide +kernel)) ggX5_size_X1_signsAhead
set_option maxRecDepth 20000 in
theorem ggX5_size_X4_heightOf : GoodIn wsX5_size wsX4_heightOf := goodIn_r _ [46, 7, 47, 48, 49, 5, 50, 51, 52, 53, 11, 54, 13, 14, 15, 16, 17, 18, 19, 20, 21, 22, 23, 24, 25, 26, 27, 28, 29, 30, 31, 32, 33, 34, 35, 55, 56, 57, 58, 36, 37, 38, 39, 40, 41, 42, 59, 60, 61, 62, 63, 64, 65, 66, 67, 68, 69, 70, 71, 72, 73, 74, 75, 76, 77, 78, 79, 80, 81, 82, 83, 84, 85, 86, 87, 88, 89, 90, 91, 92, 93, 94, 95, 96, 97, 98, 99, 100, 101, 113, 114, 115, 116, 117, 118, 119, 120, 121] (by decide +kernel) (by decide +kernel)
set_option maxRecDepth 20000 in
theorem gX5_size_X4_heightOf : GoodIn wsX5_size (wsV RX5 83 RX4 yX4_heightOf wsX4_heightOf) := goodIn_app (goodIn_of _ (by decide +kernel)) ggX5_size_X4_heightOf
set_option maxRecDepth 20000 in
theorem ggX5_size_X1_blocks : GoodIn wsX5_size wsX1_blocks := goodIn_r _ [105, 19, 116, 117, 118, 119, 120, 121] (by decide +kernel) (by decide +kernel)
set_option maxRecDepth 20000 in
theorem gX5_size_X1_blocks : GoodIn wsX5_size (wsV RX5 87 RX1 yX1_blocks wsX1_blocks) := goodIn_app (goodIn_of _ (by decide +kernel)) ggX5_size_X1_blocks
theorem dX5_size_0 : decode cX5_size 0 = .ok (.iload_n 1, 1) := by decide +kernel
theorem dX5_size_1 : decode cX5_size 1 = .ok (.tableswitch 111 0 4 #[35, 43, 65, 89, 100], 35) := by decide +kernel
theorem dX5_size_36 : decode cX5_size 36 = .ok (.aload_n 0, 1) := by decide +kernel
theorem dX5_size_37 : decode cX5_size 37 = .ok (.getfield 12, 3) := by decide +kernel
theorem dX5_size_40 : decode cX5_size 40 = .ok (.invokevirtual 66, 3) := by decide +kernel
theorem dX5_size_43 : decode cX5_size 43 = .ok (.ireturn, 1) := by decide +kernel
theorem dX5_size_44 : decode cX5_size 44 = .ok (.aload_n 0, 1) := by decide +kernel
theorem dX5_size_45 : decode cX5_size 45 = .ok (.getfield 12, 3) := by decide +kernel
theorem dX5_size_48 : decode cX5_size 48 = .ok (.getfield 70, 3) := by decide +kernel
theorem dX5_size_51 : decode cX5_size 51 = .ok (.aload_n 0, 1) := by decide +kernel
theorem dX5_size_52 : decode cX5_size 52 = .ok (.getfield 12, 3) := by decide +kernel
theorem dX5_size_55 : decode cX5_size 55 = .ok (.getfield 70, 3) := by decide +kernel
theorem dX5_size_58 : decode cX5_size 58 = .ok (.getfield 74, 3) := by decide +kernel
theorem dX5_size_61 : decode cX5_size 61 = .ok (.iconst 2, 1) := by decide +kernel
theorem dX5_size_62 : decode cX5_size 62 = .ok (.invokevirtual 79, 3) := by decide +kernel
theorem dX5_size_65 : decode cX5_size 65 = .ok (.ireturn, 1) := by decide +kernel
theorem dX5_size_66 : decode cX5_size 66 = .ok (.aload_n 0, 1) := by decide +kernel
theorem dX5_size_67 : decode cX5_size 67 = .ok (.getfield 12, 3) := by decide +kernel
theorem dX5_size_70 : decode cX5_size 70 = .ok (.invokevirtual 66, 3) := by decide +kernel
theorem dX5_size_73 : decode cX5_size 73 = .ok (.ifCond .ne 8, 3) := by decide +kernel
theorem dX5_size_76 : decode cX5_size 76 = .ok (.bipush (-4), 2) := by decide +kernel
theorem dX5_size_78 : decode cX5_size 78 = .ok (.goto 11, 3) := by decide +kernel
theorem dX5_size_81 : decode cX5_size 81 = .ok (.aload_n 0, 1) := by decide +kernel
theorem dX5_size_82 : decode cX5_size 82 = .ok (.getfield 12, 3) := by decide +kernel
theorem dX5_size_85 : decode cX5_size 85 = .ok (.iconst 0, 1) := by decide +kernel
theorem dX5_size_86 : decode cX5_size 86 = .ok (.invokevirtual 83, 3) := by decide +kernel
theorem dX5_size_89 : decode cX5_size 89 = .ok (.ireturn, 1) := by decide +kernel
theorem dX5_size_90 : decode cX5_size 90 = .ok (.aload_n 0, 1) := by decide +kernel
theorem dX5_size_91 : decode cX5_size 91 = .ok (.getfield 12, 3) := by decide +kernel
theorem dX5_size_94 : decode cX5_size 94 = .ok (.getfield 70, 3) := by decide +kernel
theorem dX5_size_97 : decode cX5_size 97 = .ok (.getfield 74, 3) := by decide +kernel
theorem dX5_size_100 : decode cX5_size 100 = .ok (.ireturn, 1) := by decide +kernel
theorem dX5_size_101 : decode cX5_size 101 = .ok (.aload_n 0, 1) := by decide +kernel
theorem dX5_size_102 : decode cX5_size 102 = .ok (.getfield 12, 3) := by decide +kernel
theorem dX5_size_105 : decode cX5_size 105 = .ok (.getfield 70, 3) := by decide +kernel
theorem dX5_size_108 : decode cX5_size 108 = .ok (.invokevirtual 87, 3) := by decide +kernel
theorem dX5_size_111 : decode cX5_size 111 = .ok (.ireturn, 1) := by decide +kernel
theorem dX5_size_112 : decode cX5_size 112 = .ok (.iconst (-1), 1) := by decide +kernel
theorem dX5_size_113 : decode cX5_size 113 = .ok (.ireturn, 1) := by decide +kernel
set_option maxRecDepth 20000 in
theorem ggX5_bit_X5_isPlace : GoodIn wsX5_bit wsX5_isPlace := goodIn_r _ [6, 1, 7, 8, 5, 9, 17, 18, 19, 20, 21, 22, 23, 24, 25, 26, 27, 28, 29, 30, 31, 32] (by decide +kernel) (by decide +kernel)
set_option maxRecDepth 20000 in
theorem gX5_bit_X5_isPlace : GoodIn wsX5_bit (wsV RX5 90 RX5 yX5_isPlace wsX5_isPlace) := goodIn_app (goodIn_of _ (by decide +kernel)) ggX5_bit_X5_isPlace
set_option maxRecDepth 20000 in
theorem ggX5_bit_X1_bitAt : GoodIn wsX5_bit wsX1_bitAt := goodIn_r _ [14, 15, 16, 27, 28, 29, 30, 31, 32] (by decide +kernel) (by decide +kernel)
set_option maxRecDepth 20000 in
theorem gX5_bit_X1_bitAt : GoodIn wsX5_bit (wsV RX5 93 RX1 yX1_bitAt wsX1_bitAt) := goodIn_app (goodIn_of _ (by decide +kernel)) ggX5_bit_X1_bitAt
theorem dX5_bit_0 : decode cX5_bit 0 = .ok (.aload_n 0, 1) := by decide +kernel
theorem dX5_bit_1 : decode cX5_bit 1 = .ok (.iload_n 1, 1) := by decide +kernel
theorem dX5_bit_2 : decode cX5_bit 2 = .ok (.invokevirtual 90, 3) := by decide +kernel
theorem dX5_bit_5 : decode cX5_bit 5 = .ok (.ifCond .eq 17, 3) := by decide +kernel
theorem dX5_bit_8 : decode cX5_bit 8 = .ok (.aload_n 0, 1) := by decide +kernel
theorem dX5_bit_9 : decode cX5_bit 9 = .ok (.getfield 12, 3) := by decide +kernel
theorem dX5_bit_12 : decode cX5_bit 12 = .ok (.getfield 70, 3) := by decide +kernel
theorem dX5_bit_15 : decode cX5_bit 15 = .ok (.iload_n 1, 1) := by decide +kernel
theorem dX5_bit_16 : decode cX5_bit 16 = .ok (.invokevirtual 93, 3) := by decide +kernel
theorem dX5_bit_19 : decode cX5_bit 19 = .ok (.goto 4, 3) := by decide +kernel
theorem dX5_bit_22 : decode cX5_bit 22 = .ok (.iconst (-1), 1) := by decide +kernel
theorem dX5_bit_23 : decode cX5_bit 23 = .ok (.ireturn, 1) := by decide +kernel
set_option maxRecDepth 20000 in
theorem ggX5_excess_X5_isPoint : GoodIn wsX5_excess wsX5_isPoint := goodIn_r _ [6, 1, 7, 8, 5, 9, 29, 30, 31, 32, 33, 34, 35, 36, 37, 38, 39, 40, 41, 42, 43, 44] (by decide +kernel) (by decide +kernel)
set_option maxRecDepth 20000 in
theorem gX5_excess_X5_isPoint : GoodIn wsX5_excess (wsV RX5 96 RX5 yX5_isPoint wsX5_isPoint) := goodIn_app (goodIn_of _ (by decide +kernel)) ggX5_excess_X5_isPoint
set_option maxRecDepth 20000 in
theorem ggX5_excess_X1_excessAt : GoodIn wsX5_excess wsX1_excessAt := goodIn_r _ [14, 15, 16, 17, 18, 19, 20, 21, 22, 23, 24, 25, 26, 27, 28, 39, 40, 41, 42, 43, 44] (by decide +kernel) (by decide +kernel)
set_option maxRecDepth 20000 in
theorem gX5_excess_X1_excessAt : GoodIn wsX5_excess (wsV RX5 99 RX1 yX1_excessAt wsX1_excessAt) := goodIn_app (goodIn_of _ (by decide +kernel)) ggX5_excess_X1_excessAt
theorem dX5_excess_0 : decode cX5_excess 0 = .ok (.aload_n 0, 1) := by decide +kernel
theorem dX5_excess_1 : decode cX5_excess 1 = .ok (.iload_n 1, 1) := by decide +kernel
theorem dX5_excess_2 : decode cX5_excess 2 = .ok (.invokevirtual 96, 3) := by decide +kernel
theorem dX5_excess_5 : decode cX5_excess 5 = .ok (.ifCond .eq 17, 3) := by decide +kernel
theorem dX5_excess_8 : decode cX5_excess 8 = .ok (.aload_n 0, 1) := by decide +kernel
theorem dX5_excess_9 : decode cX5_excess 9 = .ok (.getfield 12, 3) := by decide +kernel
theorem dX5_excess_12 : decode cX5_excess 12 = .ok (.getfield 70, 3) := by decide +kernel
theorem dX5_excess_15 : decode cX5_excess 15 = .ok (.iload_n 1, 1) := by decide +kernel
theorem dX5_excess_16 : decode cX5_excess 16 = .ok (.invokevirtual 99, 3) := by decide +kernel
theorem dX5_excess_19 : decode cX5_excess 19 = .ok (.goto 4, 3) := by decide +kernel
theorem dX5_excess_22 : decode cX5_excess 22 = .ok (.iconst (-1), 1) := by decide +kernel
theorem dX5_excess_23 : decode cX5_excess 23 = .ok (.ireturn, 1) := by decide +kernel
set_option maxRecDepth 20000 in
theorem ggX5_rank_X5_isPoint : GoodIn wsX5_rank wsX5_isPoint := goodIn_r _ [6, 1, 7, 8, 5, 9, 45, 46, 47, 48, 49, 50, 51, 52, 53, 54, 55, 56, 57, 58, 59, 60] (by decide +kernel) (by decide +kernel)
set_option maxRecDepth 20000 in
theorem gX5_rank_X5_isPoint : GoodIn wsX5_rank (wsV RX5 96 RX5 yX5_isPoint wsX5_isPoint) := goodIn_app (goodIn_of _ (by decide +kernel)) ggX5_rank_X5_isPoint
set_option maxRecDepth 20000 in
theorem ggX5_rank_X5_within : GoodIn wsX5_rank wsX5_within := goodIn_r _ [9] (by decide +kernel) (by decide +kernel)
set_option maxRecDepth 20000 in
theorem gX5_rank_X5_within : GoodIn wsX5_rank (va_wsS RX5 41 yX5_within wsX5_within) := goodIn_app (goodIn_of _ (by decide +kernel)) ggX5_rank_X5_within
set_option maxRecDepth 20000 in
theorem ggX5_rank_X1_signsAhead : GoodIn wsX5_rank wsX1_signsAhead := goodIn_r _ [14, 15, 16, 17, 13, 18, 19, 20, 21, 22, 23, 24, 25, 26, 27, 28, 29, 30, 31, 32, 33, 34, 35, 36, 37, 38, 39, 40, 41, 42, 43, 44, 55, 56, 57, 58, 59, 60] (by decide +kernel) (by decide +kernel)
set_option maxRecDepth 20000 in
theorem gX5_rank_X1_signsAhead : GoodIn wsX5_rank (wsV RX5 79 RX1 yX1_signsAhead wsX1_signsAhead) := goodIn_app (goodIn_of _ (by decide +kernel)) ggX5_rank_X1_signsAhead
theorem dX5_rank_0 : decode cX5_rank 0 = .ok (.aload_n 0, 1) := by decide +kernel
theorem dX5_rank_1 : decode cX5_rank 1 = .ok (.iload_n 1, 1) := by decide +kernel
theorem dX5_rank_2 : decode cX5_rank 2 = .ok (.invokevirtual 96, 3) := by decide +kernel
theorem dX5_rank_5 : decode cX5_rank 5 = .ok (.ifCond .eq 12, 3) := by decide +kernel
theorem dX5_rank_8 : decode cX5_rank 8 = .ok (.iload_n 2, 1) := by decide +kernel
theorem dX5_rank_9 : decode cX5_rank 9 = .ok (.iconst 0, 1) := by decide +kernel
theorem dX5_rank_10 : decode cX5_rank 10 = .ok (.iconst 2, 1) := by decide +kernel
theorem dX5_rank_11 : decode cX5_rank 11 = .ok (.invokestatic 41, 3) := by decide +kernel
theorem dX5_rank_14 : decode cX5_rank 14 = .ok (.ifCond .ne 5, 3) := by decide +kernel
theorem dX5_rank_17 : decode cX5_rank 17 = .ok (.iconst (-1), 1) := by decide +kernel
theorem dX5_rank_18 : decode cX5_rank 18 = .ok (.ireturn, 1) := by decide +kernel
theorem dX5_rank_19 : decode cX5_rank 19 = .ok (.aload_n 0, 1) := by decide +kernel
theorem dX5_rank_20 : decode cX5_rank 20 = .ok (.getfield 12, 3) := by decide +kernel
theorem dX5_rank_23 : decode cX5_rank 23 = .ok (.getfield 70, 3) := by decide +kernel
theorem dX5_rank_26 : decode cX5_rank 26 = .ok (.iload_n 2, 1) := by decide +kernel
theorem dX5_rank_27 : decode cX5_rank 27 = .ok (.iconst 2, 1) := by decide +kernel
theorem dX5_rank_28 : decode cX5_rank 28 = .ok (.if_icmp .ne 9, 3) := by decide +kernel
theorem dX5_rank_31 : decode cX5_rank 31 = .ok (.iload_n 1, 1) := by decide +kernel
theorem dX5_rank_32 : decode cX5_rank 32 = .ok (.iconst 1, 1) := by decide +kernel
theorem dX5_rank_33 : decode cX5_rank 33 = .ok (.isub, 1) := by decide +kernel
theorem dX5_rank_34 : decode cX5_rank 34 = .ok (.goto 4, 3) := by decide +kernel
theorem dX5_rank_37 : decode cX5_rank 37 = .ok (.iload_n 1, 1) := by decide +kernel
theorem dX5_rank_38 : decode cX5_rank 38 = .ok (.iload_n 2, 1) := by decide +kernel
theorem dX5_rank_39 : decode cX5_rank 39 = .ok (.invokevirtual 79, 3) := by decide +kernel
theorem dX5_rank_42 : decode cX5_rank 42 = .ok (.ireturn, 1) := by decide +kernel
set_option maxRecDepth 20000 in
theorem ggX5_select_X5_within : GoodIn wsX5_select wsX5_within := goodIn_r _ [5] (by decide +kernel) (by decide +kernel)
set_option maxRecDepth 20000 in
theorem gX5_select_X5_within : GoodIn wsX5_select (va_wsS RX5 41 yX5_within wsX5_within) := goodIn_app (goodIn_of _ (by decide +kernel)) ggX5_select_X5_within
set_option maxRecDepth 20000 in
theorem ggX5_select_X1_placeOfSign : GoodIn wsX5_select wsX1_placeOfSign := goodIn_r _ [10, 11, 12, 13, 9, 14, 15, 16, 17, 18, 19, 20, 21, 22, 23, 24, 25, 26, 27, 28, 29, 30, 31, 32, 33, 34, 35, 36, 37, 38, 39, 40, 41, 42, 43, 44, 55, 56, 57, 58, 59, 60] (by decide +kernel) (by decide +kernel)
set_option maxRecDepth 20000 in
theorem gX5_select_X1_placeOfSign : GoodIn wsX5_select (wsV RX5 102 RX1 yX1_placeOfSign wsX1_placeOfSign) := goodIn_app (goodIn_of _ (by decide +kernel)) ggX5_select_X1_placeOfSign
theorem dX5_select_0 : decode cX5_select 0 = .ok (.iload_n 1, 1) := by decide +kernel
theorem dX5_select_1 : decode cX5_select 1 = .ok (.ifCond .lt 12, 3) := by decide +kernel
theorem dX5_select_4 : decode cX5_select 4 = .ok (.iload_n 2, 1) := by decide +kernel
theorem dX5_select_5 : decode cX5_select 5 = .ok (.iconst 0, 1) := by decide +kernel
theorem dX5_select_6 : decode cX5_select 6 = .ok (.iconst 2, 1) := by decide +kernel
theorem dX5_select_7 : decode cX5_select 7 = .ok (.invokestatic 41, 3) := by decide +kernel
theorem dX5_select_10 : decode cX5_select 10 = .ok (.ifCond .ne 5, 3) := by decide +kernel
theorem dX5_select_13 : decode cX5_select 13 = .ok (.iconst (-1), 1) := by decide +kernel
theorem dX5_select_14 : decode cX5_select 14 = .ok (.ireturn, 1) := by decide +kernel
theorem dX5_select_15 : decode cX5_select 15 = .ok (.aload_n 0, 1) := by decide +kernel
theorem dX5_select_16 : decode cX5_select 16 = .ok (.getfield 12, 3) := by decide +kernel
theorem dX5_select_19 : decode cX5_select 19 = .ok (.getfield 70, 3) := by decide +kernel
theorem dX5_select_22 : decode cX5_select 22 = .ok (.iload_n 1, 1) := by decide +kernel
theorem dX5_select_23 : decode cX5_select 23 = .ok (.iload_n 2, 1) := by decide +kernel
theorem dX5_select_24 : decode cX5_select 24 = .ok (.invokevirtual 102, 3) := by decide +kernel
theorem dX5_select_27 : decode cX5_select 27 = .ok (.ireturn, 1) := by decide +kernel
set_option maxRecDepth 20000 in
theorem ggX5_forward_X5_isPoint : GoodIn wsX5_forward wsX5_isPoint := goodIn_r _ [6, 1, 7, 8, 5, 9, 45, 46, 47, 48, 49, 50, 51, 52, 53, 54, 55, 56, 57, 58, 59, 60] (by decide +kernel) (by decide +kernel)
set_option maxRecDepth 20000 in
theorem gX5_forward_X5_isPoint : GoodIn wsX5_forward (wsV RX5 96 RX5 yX5_isPoint wsX5_isPoint) := goodIn_app (goodIn_of _ (by decide +kernel)) ggX5_forward_X5_isPoint
set_option maxRecDepth 20000 in
theorem ggX5_forward_X1_searchOn : GoodIn wsX5_forward wsX1_searchOn := goodIn_r _ [14, 15, 16, 17, 18, 19, 13, 20, 21, 22, 23, 24, 25, 26, 27, 28, 29, 30, 31, 32, 33, 34, 35, 36, 37, 38, 39, 40, 41, 42, 43, 44, 55, 56, 57, 58, 59, 60] (by decide +kernel) (by decide +kernel)
set_option maxRecDepth 20000 in
theorem gX5_forward_X1_searchOn : GoodIn wsX5_forward (wsV RX5 105 RX1 yX1_searchOn wsX1_searchOn) := goodIn_app (goodIn_of _ (by decide +kernel)) ggX5_forward_X1_searchOn
theorem dX5_forward_0 : decode cX5_forward 0 = .ok (.aload_n 0, 1) := by decide +kernel
theorem dX5_forward_1 : decode cX5_forward 1 = .ok (.iload_n 1, 1) := by decide +kernel
theorem dX5_forward_2 : decode cX5_forward 2 = .ok (.invokevirtual 96, 3) := by decide +kernel
theorem dX5_forward_5 : decode cX5_forward 5 = .ok (.ifCond .eq 18, 3) := by decide +kernel
theorem dX5_forward_8 : decode cX5_forward 8 = .ok (.aload_n 0, 1) := by decide +kernel
theorem dX5_forward_9 : decode cX5_forward 9 = .ok (.getfield 12, 3) := by decide +kernel
theorem dX5_forward_12 : decode cX5_forward 12 = .ok (.getfield 70, 3) := by decide +kernel
theorem dX5_forward_15 : decode cX5_forward 15 = .ok (.iload_n 1, 1) := by decide +kernel
theorem dX5_forward_16 : decode cX5_forward 16 = .ok (.iload_n 2, 1) := by decide +kernel
theorem dX5_forward_17 : decode cX5_forward 17 = .ok (.invokevirtual 105, 3) := by decide +kernel
theorem dX5_forward_20 : decode cX5_forward 20 = .ok (.goto 4, 3) := by decide +kernel
theorem dX5_forward_23 : decode cX5_forward 23 = .ok (.iconst (-1), 1) := by decide +kernel
theorem dX5_forward_24 : decode cX5_forward 24 = .ok (.ireturn, 1) := by decide +kernel
set_option maxRecDepth 20000 in
theorem ggX5_backward_X5_isPoint : GoodIn wsX5_backward wsX5_isPoint := goodIn_r _ [6, 1, 7, 8, 5, 9, 44, 45, 46, 47, 48, 49, 50, 51, 52, 53, 54, 55, 56, 57, 58, 59] (by decide +kernel) (by decide +kernel)
set_option maxRecDepth 20000 in
theorem gX5_backward_X5_isPoint : GoodIn wsX5_backward (wsV RX5 96 RX5 yX5_isPoint wsX5_isPoint) := goodIn_app (goodIn_of _ (by decide +kernel)) ggX5_backward_X5_isPoint
set_option maxRecDepth 20000 in
theorem ggX5_backward_X1_searchBack : GoodIn wsX5_backward wsX1_searchBack := goodIn_r _ [14, 15, 16, 17, 18, 13, 19, 20, 21, 22, 23, 24, 25, 26, 27, 28, 29, 30, 31, 32, 33, 34, 35, 36, 37, 38, 39, 40, 41, 42, 43, 54, 55, 56, 57, 58, 59] (by decide +kernel) (by decide +kernel)
set_option maxRecDepth 20000 in
theorem gX5_backward_X1_searchBack : GoodIn wsX5_backward (wsV RX5 108 RX1 yX1_searchBack wsX1_searchBack) := goodIn_app (goodIn_of _ (by decide +kernel)) ggX5_backward_X1_searchBack
theorem dX5_backward_0 : decode cX5_backward 0 = .ok (.aload_n 0, 1) := by decide +kernel
theorem dX5_backward_1 : decode cX5_backward 1 = .ok (.iload_n 1, 1) := by decide +kernel
theorem dX5_backward_2 : decode cX5_backward 2 = .ok (.invokevirtual 96, 3) := by decide +kernel
theorem dX5_backward_5 : decode cX5_backward 5 = .ok (.ifCond .eq 18, 3) := by decide +kernel
theorem dX5_backward_8 : decode cX5_backward 8 = .ok (.aload_n 0, 1) := by decide +kernel
theorem dX5_backward_9 : decode cX5_backward 9 = .ok (.getfield 12, 3) := by decide +kernel
theorem dX5_backward_12 : decode cX5_backward 12 = .ok (.getfield 70, 3) := by decide +kernel
theorem dX5_backward_15 : decode cX5_backward 15 = .ok (.iload_n 1, 1) := by decide +kernel
theorem dX5_backward_16 : decode cX5_backward 16 = .ok (.iload_n 2, 1) := by decide +kernel
theorem dX5_backward_17 : decode cX5_backward 17 = .ok (.invokevirtual 108, 3) := by decide +kernel
theorem dX5_backward_20 : decode cX5_backward 20 = .ok (.goto 4, 3) := by decide +kernel
theorem dX5_backward_23 : decode cX5_backward 23 = .ok (.iconst (-1), 1) := by decide +kernel
theorem dX5_backward_24 : decode cX5_backward 24 = .ok (.ireturn, 1) := by decide +kernel
set_option maxRecDepth 20000 in
theorem ggX5_match_X5_isPlace : GoodIn wsX5_match wsX5_isPlace := goodIn_r _ [6, 1, 7, 8, 5, 9, 57, 58, 59, 60, 61, 62, 63, 64, 65, 66, 67, 68, 69, 70, 71, 72] (by decide +kernel) (by decide +kernel)
set_option maxRecDepth 20000 in
theorem gX5_match_X5_isPlace : GoodIn wsX5_match (wsV RX5 90 RX5 yX5_isPlace wsX5_isPlace) := goodIn_app (goodIn_of _ (by decide +kernel)) ggX5_match_X5_isPlace
set_option maxRecDepth 20000 in
theorem ggX5_match_X1_partnerOf : GoodIn wsX5_match wsX1_partnerOf := goodIn_r _ [14, 15, 16, 17, 13, 18, 19, 20, 21, 22, 23, 24, 25, 26, 27, 28, 29, 30, 31, 32, 33, 34, 35, 36, 37, 38, 39, 40, 41, 42, 43, 44, 45, 46, 47, 48, 49, 50, 51, 52, 53, 54, 55, 56, 67, 68, 69, 70, 71, 72] (by decide +kernel) (by decide +kernel)
set_option maxRecDepth 20000 in
theorem gX5_match_X1_partnerOf : GoodIn wsX5_match (wsV RX5 111 RX1 yX1_partnerOf wsX1_partnerOf) := goodIn_app (goodIn_of _ (by decide +kernel)) ggX5_match_X1_partnerOf
theorem dX5_match_0 : decode cX5_match 0 = .ok (.aload_n 0, 1) := by decide +kernel
theorem dX5_match_1 : decode cX5_match 1 = .ok (.iload_n 1, 1) := by decide +kernel
theorem dX5_match_2 : decode cX5_match 2 = .ok (.invokevirtual 90, 3) := by decide +kernel
theorem dX5_match_5 : decode cX5_match 5 = .ok (.ifCond .eq 17, 3) := by decide +kernel
theorem dX5_match_8 : decode cX5_match 8 = .ok (.aload_n 0, 1) := by decide +kernel
theorem dX5_match_9 : decode cX5_match 9 = .ok (.getfield 12, 3) := by decide +kernel
theorem dX5_match_12 : decode cX5_match 12 = .ok (.getfield 70, 3) := by decide +kernel
theorem dX5_match_15 : decode cX5_match 15 = .ok (.iload_n 1, 1) := by decide +kernel
theorem dX5_match_16 : decode cX5_match 16 = .ok (.invokevirtual 111, 3) := by decide +kernel
theorem dX5_match_19 : decode cX5_match 19 = .ok (.goto 4, 3) := by decide +kernel
theorem dX5_match_22 : decode cX5_match 22 = .ok (.iconst (-1), 1) := by decide +kernel
theorem dX5_match_23 : decode cX5_match 23 = .ok (.ireturn, 1) := by decide +kernel
set_option maxRecDepth 20000 in
theorem ggX5_least_X5_isPoint : GoodIn wsX5_least wsX5_isPoint := goodIn_r _ [6, 1, 7, 8, 5, 9, 64, 65, 66, 67, 68, 69, 70, 71, 72, 73, 74, 75, 76, 77, 78, 79] (by decide +kernel) (by decide +kernel)
set_option maxRecDepth 20000 in
theorem gX5_least_X5_isPoint : GoodIn wsX5_least (wsV RX5 96 RX5 yX5_isPoint wsX5_isPoint) := goodIn_app (goodIn_of _ (by decide +kernel)) ggX5_least_X5_isPoint
set_option maxRecDepth 20000 in
theorem ggX5_least_X1_extremeIn : GoodIn wsX5_least wsX1_extremeIn := goodIn_r _ [14, 15, 16, 17, 18, 19, 20, 21, 22, 23, 24, 25, 26, 27, 13, 28, 29, 30, 31, 32, 33, 34, 35, 36, 37, 38, 39, 40, 41, 42, 43, 44, 45, 46, 74, 75, 76, 77, 78, 79] (by decide +kernel) (by decide +kernel)
set_option maxRecDepth 20000 in
theorem gX5_least_X1_extremeIn : GoodIn wsX5_least (wsV RX5 114 RX1 yX1_extremeIn wsX1_extremeIn) := goodIn_app (goodIn_of _ (by decide +kernel)) ggX5_least_X1_extremeIn
set_option maxRecDepth 20000 in
theorem ggX5_least_X1_firstWith : GoodIn wsX5_least wsX1_firstWith := goodIn_r _ [50, 25, 26, 27, 13, 28, 29, 30, 31, 32, 33, 34, 35, 36, 37, 38, 39, 40, 41, 42, 51, 52, 53, 54, 55, 17, 56, 57, 58, 59, 16, 15, 43, 44, 45, 46, 74, 75, 76, 77, 78, 79] (by decide +kernel) (by decide +kernel)
set_option maxRecDepth 20000 in
theorem gX5_least_X1_firstWith : GoodIn wsX5_least (wsV RX5 118 RX1 yX1_firstWith wsX1_firstWith) := goodIn_app (goodIn_of _ (by decide +kernel)) ggX5_least_X1_firstWith
set_option maxRecDepth 20000 in
theorem ggX5_least_X1_pointsWith : GoodIn wsX5_least wsX1_pointsWith := goodIn_r _ [63, 25, 26, 27, 13, 28, 29, 30, 31, 32, 33, 34, 35, 36, 37, 38, 39, 40, 41, 42, 43, 44, 45, 46, 74, 75, 76, 77, 78, 79] (by decide +kernel) (by decide +kernel)
set_option maxRecDepth 20000 in
theorem gX5_least_X1_pointsWith : GoodIn wsX5_least (wsV RX5 121 RX1 yX1_pointsWith wsX1_pointsWith) := goodIn_app (goodIn_of _ (by decide +kernel)) ggX5_least_X1_pointsWith
theorem dX5_least_0 : decode cX5_least 0 = .ok (.aload_n 0, 1) := by decide +kernel
theorem dX5_least_1 : decode cX5_least 1 = .ok (.iload_n 1, 1) := by decide +kernel
theorem dX5_least_2 : decode cX5_least 2 = .ok (.invokevirtual 96, 3) := by decide +kernel
theorem dX5_least_5 : decode cX5_least 5 = .ok (.ifCond .eq 16, 3) := by decide +kernel
theorem dX5_least_8 : decode cX5_least 8 = .ok (.aload_n 0, 1) := by decide +kernel
theorem dX5_least_9 : decode cX5_least 9 = .ok (.iload_n 2, 1) := by decide +kernel
theorem dX5_least_10 : decode cX5_least 10 = .ok (.invokevirtual 96, 3) := by decide +kernel
theorem dX5_least_13 : decode cX5_least 13 = .ok (.ifCond .eq 8, 3) := by decide +kernel
theorem dX5_least_16 : decode cX5_least 16 = .ok (.iload_n 1, 1) := by decide +kernel
theorem dX5_least_17 : decode cX5_least 17 = .ok (.iload_n 2, 1) := by decide +kernel
theorem dX5_least_18 : decode cX5_least 18 = .ok (.if_icmp .le 5, 3) := by decide +kernel
theorem dX5_least_21 : decode cX5_least 21 = .ok (.iconst (-1), 1) := by decide +kernel
theorem dX5_least_22 : decode cX5_least 22 = .ok (.ireturn, 1) := by decide +kernel
theorem dX5_least_23 : decode cX5_least 23 = .ok (.iload_n 3, 1) := by decide +kernel
theorem dX5_least_24 : decode cX5_least 24 = .ok (.tableswitch 111 0 3 #[32, 46, 71, 97], 32) := by decide +kernel
theorem dX5_least_56 : decode cX5_least 56 = .ok (.aload_n 0, 1) := by decide +kernel
theorem dX5_least_57 : decode cX5_least 57 = .ok (.getfield 12, 3) := by decide +kernel
theorem dX5_least_60 : decode cX5_least 60 = .ok (.getfield 70, 3) := by decide +kernel
theorem dX5_least_63 : decode cX5_least 63 = .ok (.iload_n 1, 1) := by decide +kernel
theorem dX5_least_64 : decode cX5_least 64 = .ok (.iload_n 2, 1) := by decide +kernel
theorem dX5_least_65 : decode cX5_least 65 = .ok (.iconst 0, 1) := by decide +kernel
theorem dX5_least_66 : decode cX5_least 66 = .ok (.invokevirtual 114, 3) := by decide +kernel
theorem dX5_least_69 : decode cX5_least 69 = .ok (.ireturn, 1) := by decide +kernel
theorem dX5_least_70 : decode cX5_least 70 = .ok (.aload_n 0, 1) := by decide +kernel
theorem dX5_least_71 : decode cX5_least 71 = .ok (.getfield 12, 3) := by decide +kernel
theorem dX5_least_74 : decode cX5_least 74 = .ok (.getfield 70, 3) := by decide +kernel
theorem dX5_least_77 : decode cX5_least 77 = .ok (.iload_n 1, 1) := by decide +kernel
theorem dX5_least_78 : decode cX5_least 78 = .ok (.aload_n 0, 1) := by decide +kernel
theorem dX5_least_79 : decode cX5_least 79 = .ok (.getfield 12, 3) := by decide +kernel
theorem dX5_least_82 : decode cX5_least 82 = .ok (.getfield 70, 3) := by decide +kernel
theorem dX5_least_85 : decode cX5_least 85 = .ok (.iload_n 1, 1) := by decide +kernel
theorem dX5_least_86 : decode cX5_least 86 = .ok (.iload_n 2, 1) := by decide +kernel
theorem dX5_least_87 : decode cX5_least 87 = .ok (.iconst 0, 1) := by decide +kernel
theorem dX5_least_88 : decode cX5_least 88 = .ok (.invokevirtual 114, 3) := by decide +kernel
theorem dX5_least_91 : decode cX5_least 91 = .ok (.invokevirtual 118, 3) := by decide +kernel
theorem dX5_least_94 : decode cX5_least 94 = .ok (.ireturn, 1) := by decide +kernel
theorem dX5_least_95 : decode cX5_least 95 = .ok (.aload_n 0, 1) := by decide +kernel
theorem dX5_least_96 : decode cX5_least 96 = .ok (.getfield 12, 3) := by decide +kernel
theorem dX5_least_99 : decode cX5_least 99 = .ok (.getfield 70, 3) := by decide +kernel
theorem dX5_least_102 : decode cX5_least 102 = .ok (.iload_n 1, 1) := by decide +kernel
theorem dX5_least_103 : decode cX5_least 103 = .ok (.iload_n 2, 1) := by decide +kernel
theorem dX5_least_104 : decode cX5_least 104 = .ok (.aload_n 0, 1) := by decide +kernel
theorem dX5_least_105 : decode cX5_least 105 = .ok (.getfield 12, 3) := by decide +kernel
theorem dX5_least_108 : decode cX5_least 108 = .ok (.getfield 70, 3) := by decide +kernel
theorem dX5_least_111 : decode cX5_least 111 = .ok (.iload_n 1, 1) := by decide +kernel
theorem dX5_least_112 : decode cX5_least 112 = .ok (.iload_n 2, 1) := by decide +kernel
theorem dX5_least_113 : decode cX5_least 113 = .ok (.iconst 0, 1) := by decide +kernel
theorem dX5_least_114 : decode cX5_least 114 = .ok (.invokevirtual 114, 3) := by decide +kernel
theorem dX5_least_117 : decode cX5_least 117 = .ok (.invokevirtual 121, 3) := by decide +kernel
theorem dX5_least_120 : decode cX5_least 120 = .ok (.ireturn, 1) := by decide +kernel
theorem dX5_least_121 : decode cX5_least 121 = .ok (.aload_n 0, 1) := by decide +kernel
theorem dX5_least_122 : decode cX5_least 122 = .ok (.getfield 12, 3) := by decide +kernel
theorem dX5_least_125 : decode cX5_least 125 = .ok (.getfield 70, 3) := by decide +kernel
theorem dX5_least_128 : decode cX5_least 128 = .ok (.iload_n 1, 1) := by decide +kernel
theorem dX5_least_129 : decode cX5_least 129 = .ok (.iload_n 2, 1) := by decide +kernel
theorem dX5_least_130 : decode cX5_least 130 = .ok (.iconst 1, 1) := by decide +kernel
theorem dX5_least_131 : decode cX5_least 131 = .ok (.invokevirtual 114, 3) := by decide +kernel
theorem dX5_least_134 : decode cX5_least 134 = .ok (.ireturn, 1) := by decide +kernel
theorem dX5_least_135 : decode cX5_least 135 = .ok (.iconst (-1), 1) := by decide +kernel
theorem dX5_least_136 : decode cX5_least 136 = .ok (.ireturn, 1) := by decide +kernel
set_option maxRecDepth 20000 in
theorem ggX5_block_X1_blocks : GoodIn wsX5_block wsX1_blocks := goodIn_r _ [6, 7, 22, 23, 24, 25, 26, 27] (by decide +kernel) (by decide +kernel)
set_option maxRecDepth 20000 in
theorem gX5_block_X1_blocks : GoodIn wsX5_block (wsV RX5 87 RX1 yX1_blocks wsX1_blocks) := goodIn_app (goodIn_of _ (by decide +kernel)) ggX5_block_X1_blocks
set_option maxRecDepth 20000 in
theorem ggX5_block_X5_within : GoodIn wsX5_block wsX5_within := goodIn_r _ [11] (by decide +kernel) (by decide +kernel)
set_option maxRecDepth 20000 in
theorem gX5_block_X5_within : GoodIn wsX5_block (va_wsS RX5 41 yX5_within wsX5_within) := goodIn_app (goodIn_of _ (by decide +kernel)) ggX5_block_X5_within
theorem dX5_block_0 : decode cX5_block 0 = .ok (.iload_n 1, 1) := by decide +kernel
theorem dX5_block_1 : decode cX5_block 1 = .ok (.iconst 0, 1) := by decide +kernel
theorem dX5_block_2 : decode cX5_block 2 = .ok (.aload_n 0, 1) := by decide +kernel
theorem dX5_block_3 : decode cX5_block 3 = .ok (.getfield 12, 3) := by decide +kernel
theorem dX5_block_6 : decode cX5_block 6 = .ok (.getfield 70, 3) := by decide +kernel
theorem dX5_block_9 : decode cX5_block 9 = .ok (.invokevirtual 87, 3) := by decide +kernel
theorem dX5_block_12 : decode cX5_block 12 = .ok (.iconst 1, 1) := by decide +kernel
theorem dX5_block_13 : decode cX5_block 13 = .ok (.isub, 1) := by decide +kernel
theorem dX5_block_14 : decode cX5_block 14 = .ok (.invokestatic 41, 3) := by decide +kernel
theorem dX5_block_17 : decode cX5_block 17 = .ok (.ifCond .ne 5, 3) := by decide +kernel
theorem dX5_block_20 : decode cX5_block 20 = .ok (.iconst (-1), 1) := by decide +kernel
theorem dX5_block_21 : decode cX5_block 21 = .ok (.ireturn, 1) := by decide +kernel
theorem dX5_block_22 : decode cX5_block 22 = .ok (.iload_n 2, 1) := by decide +kernel
theorem dX5_block_23 : decode cX5_block 23 = .ok (.tableswitch 73 0 2 #[25, 41, 57], 25) := by decide +kernel
theorem dX5_block_48 : decode cX5_block 48 = .ok (.bipush 100, 2) := by decide +kernel
theorem dX5_block_50 : decode cX5_block 50 = .ok (.aload_n 0, 1) := by decide +kernel
theorem dX5_block_51 : decode cX5_block 51 = .ok (.getfield 12, 3) := by decide +kernel
theorem dX5_block_54 : decode cX5_block 54 = .ok (.getfield 70, 3) := by decide +kernel
theorem dX5_block_57 : decode cX5_block 57 = .ok (.getfield 125, 3) := by decide +kernel
theorem dX5_block_60 : decode cX5_block 60 = .ok (.iload_n 1, 1) := by decide +kernel
theorem dX5_block_61 : decode cX5_block 61 = .ok (.iaload, 1) := by decide +kernel
theorem dX5_block_62 : decode cX5_block 62 = .ok (.iadd, 1) := by decide +kernel
theorem dX5_block_63 : decode cX5_block 63 = .ok (.ireturn, 1) := by decide +kernel
theorem dX5_block_64 : decode cX5_block 64 = .ok (.bipush 100, 2) := by decide +kernel
theorem dX5_block_66 : decode cX5_block 66 = .ok (.aload_n 0, 1) := by decide +kernel
theorem dX5_block_67 : decode cX5_block 67 = .ok (.getfield 12, 3) := by decide +kernel
theorem dX5_block_70 : decode cX5_block 70 = .ok (.getfield 70, 3) := by decide +kernel
theorem dX5_block_73 : decode cX5_block 73 = .ok (.getfield 129, 3) := by decide +kernel
theorem dX5_block_76 : decode cX5_block 76 = .ok (.iload_n 1, 1) := by decide +kernel
theorem dX5_block_77 : decode cX5_block 77 = .ok (.iaload, 1) := by decide +kernel
theorem dX5_block_78 : decode cX5_block 78 = .ok (.iadd, 1) := by decide +kernel
theorem dX5_block_79 : decode cX5_block 79 = .ok (.ireturn, 1) := by decide +kernel
theorem dX5_block_80 : decode cX5_block 80 = .ok (.bipush 100, 2) := by decide +kernel
theorem dX5_block_82 : decode cX5_block 82 = .ok (.aload_n 0, 1) := by decide +kernel
theorem dX5_block_83 : decode cX5_block 83 = .ok (.getfield 12, 3) := by decide +kernel
theorem dX5_block_86 : decode cX5_block 86 = .ok (.getfield 70, 3) := by decide +kernel
theorem dX5_block_89 : decode cX5_block 89 = .ok (.getfield 132, 3) := by decide +kernel
theorem dX5_block_92 : decode cX5_block 92 = .ok (.iload_n 1, 1) := by decide +kernel
theorem dX5_block_93 : decode cX5_block 93 = .ok (.iaload, 1) := by decide +kernel
theorem dX5_block_94 : decode cX5_block 94 = .ok (.iadd, 1) := by decide +kernel
theorem dX5_block_95 : decode cX5_block 95 = .ok (.ireturn, 1) := by decide +kernel
theorem dX5_block_96 : decode cX5_block 96 = .ok (.iconst (-1), 1) := by decide +kernel
theorem dX5_block_97 : decode cX5_block 97 = .ok (.ireturn, 1) := by decide +kernel
set_option maxRecDepth 20000 in
theorem ggX5_node_X4_has : GoodIn wsX5_node wsX4_has := goodIn_r _ [6, 7, 8, 9, 5, 10, 11, 175, 176, 177, 178, 179, 180, 181, 182, 183] (by decide +kernel) (by decide +kernel)
set_option maxRecDepth 20000 in
theorem gX5_node_X4_has : GoodIn wsX5_node (wsV RX5 135 RX4 yX4_has wsX4_has) := goodIn_app (goodIn_of _ (by decide +kernel)) ggX5_node_X4_has
set_option maxRecDepth 20000 in
theorem ggX5_node_X4_openOf : GoodIn wsX5_node wsX4_openOf := goodIn_r _ [15, 11, 16, 17, 18, 19, 20, 21, 22, 23, 24, 25, 26, 27, 28, 29, 30, 31, 32, 33, 34, 35, 36, 37, 38, 39, 40, 41, 42, 43, 44, 45, 46, 47, 48, 49, 50, 51, 52, 53, 54, 175, 176, 177, 178, 179, 180, 181, 182, 183] (by decide +kernel) (by decide +kernel)
set_option maxRecDepth 20000 in
theorem gX5_node_X4_openOf : GoodIn wsX5_node (wsV RX5 138 RX4 yX4_openOf wsX4_openOf) := goodIn_app (goodIn_of _ (by decide +kernel)) ggX5_node_X4_openOf
set_option maxRecDepth 20000 in
theorem ggX5_node_X4_closeOf : GoodIn wsX5_node wsX4_closeOf := goodIn_r _ [58, 11, 59, 13, 14, 5, 15, 16, 17, 18, 19, 20, 21, 22, 23, 24, 25, 26, 27, 28, 29, 30, 31, 32, 33, 34, 35, 36, 37, 38, 39, 40, 41, 42, 43, 44, 45, 46, 47, 48, 49, 50, 51, 52, 53, 54, 60, 61, 62, 63, 64, 65, 66, 67, 68, 69, 70, 71, 72, 73, 74, 75, 76, 77, 78, 79, 80, 81, 82, 83, 84, 85, 86, 87, 88, 89, 90, 175, 176, 177, 178, 179, 180, 181, 182, 183] (by decide +kernel) (by decide +kernel)
set_option maxRecDepth 20000 in
theorem gX5_node_X4_closeOf : GoodIn wsX5_node (wsV RX5 141 RX4 yX4_closeOf wsX4_closeOf) := goodIn_app (goodIn_of _ (by decide +kernel)) ggX5_node_X4_closeOf
set_option maxRecDepth 20000 in
theorem ggX5_node_X4_depthOf : GoodIn wsX5_node wsX4_depthOf := goodIn_r _ [94, 11, 59, 13, 14, 5, 15, 16, 17, 18, 19, 20, 21, 22, 23, 24, 25, 26, 27, 28, 29, 30, 31, 32, 33, 34, 35, 36, 37, 38, 39, 40, 41, 42, 43, 44, 45, 46, 47, 48, 49, 50, 51, 52, 53, 54, 95, 69, 70, 71, 175, 176, 177, 178, 179, 180, 181, 182, 183] (by decide +kernel) (by decide +kernel)
set_option maxRecDepth 20000 in
theorem gX5_node_X4_depthOf : GoodIn wsX5_node (wsV RX5 144 RX4 yX4_depthOf wsX4_depthOf) := goodIn_app (goodIn_of _ (by decide +kernel)) ggX5_node_X4_depthOf
set_option maxRecDepth 20000 in
theorem ggX5_node_X4_aboveBy : GoodIn wsX5_node wsX4_aboveBy := goodIn_r _ [99, 11, 59, 13, 14, 5, 15, 16, 17, 18, 19, 20, 21, 22, 23, 24, 25, 26, 27, 28, 29, 30, 31, 32, 33, 34, 35, 36, 37, 38, 39, 40, 41, 42, 43, 44, 45, 46, 47, 48, 49, 50, 51, 52, 53, 54, 95, 69, 70, 71, 100, 88, 89, 90, 76, 68, 83, 84, 85, 86, 77, 78, 79, 80, 81, 82, 101, 102, 103, 104, 175, 176, 177, 178, 179, 180, 181, 182, 183] (by decide +kernel) (by decide +kernel)
set_option maxRecDepth 20000 in
theorem gX5_node_X4_aboveBy : GoodIn wsX5_node (wsV RX5 147 RX4 yX4_aboveBy wsX4_aboveBy) := goodIn_app (goodIn_of _ (by decide +kernel)) ggX5_node_X4_aboveBy
set_option maxRecDepth 20000 in
theorem ggX5_node_X4_firstChildOf : GoodIn wsX5_node wsX4_firstChildOf := goodIn_r _ [108, 11, 59, 13, 14, 5, 15, 16, 17, 18, 19, 20, 21, 22, 23, 24, 25, 26, 27, 28, 29, 30, 31, 32, 33, 34, 35, 36, 37, 38, 39, 40, 41, 42, 43, 44, 45, 46, 47, 48, 49, 50, 51, 52, 53, 54, 109, 65, 66, 67, 175, 176, 177, 178, 179, 180, 181, 182, 183] (by decide +kernel) (by decide +kernel)
set_option maxRecDepth 20000 in
theorem gX5_node_X4_firstChildOf : GoodIn wsX5_node (wsV RX5 150 RX4 yX4_firstChildOf wsX4_firstChildOf) := goodIn_app (goodIn_of _ (by decide +kernel)) ggX5_node_X4_firstChildOf
set_option maxRecDepth 20000 in
theorem ggX5_node_X4_lastChildOf : GoodIn wsX5_node wsX4_lastChildOf := goodIn_r _ [113, 11, 114, 56, 57, 5, 58, 59, 13, 14, 15, 16, 17, 18, 19, 20, 21, 22, 23, 24, 25, 26, 27, 28, 29, 30, 31, 32, 33, 34, 35, 36, 37, 38, 39, 40, 41, 42, 43, 44, 45, 46, 47, 48, 49, 50, 51, 52, 53, 54, 60, 61, 62, 63, 64, 65, 66, 67, 68, 69, 70, 71, 72, 73, 74, 75, 76, 77, 78, 79, 80, 81, 82, 83, 84, 85, 86, 87, 88, 89, 90, 109, 115, 116, 117, 118, 101, 102, 103, 104, 175, 176, 177, 178, 179, 180, 181, 182, 183] (by decide +kernel) (by decide +kernel)
set_option maxRecDepth 20000 in
theorem gX5_node_X4_lastChildOf : GoodIn wsX5_node (wsV RX5 153 RX4 yX4_lastChildOf wsX4_lastChildOf) := goodIn_app (goodIn_of _ (by decide +kernel)) ggX5_node_X4_lastChildOf
set_option maxRecDepth 20000 in
theorem ggX5_node_X4_nextChildAfter : GoodIn wsX5_node wsX4_nextChildAfter := goodIn_r _ [122, 11, 114, 56, 57, 5, 58, 59, 13, 14, 15, 16, 17, 18, 19, 20, 21, 22, 23, 24, 25, 26, 27, 28, 29, 30, 31, 32, 33, 34, 35, 36, 37, 38, 39, 40, 41, 42, 43, 44, 45, 46, 47, 48, 49, 50, 51, 52, 53, 54, 60, 61, 62, 63, 64, 65, 66, 67, 68, 69, 70, 71, 72, 73, 74, 75, 76, 77, 78, 79, 80, 81, 82, 83, 84, 85, 86, 87, 88, 89, 90, 109, 115, 116, 117, 118, 101, 102, 103, 104, 175, 176, 177, 178, 179, 180, 181, 182, 183] (by decide +kernel) (by decide +kernel)
set_option maxRecDepth 20000 in
theorem gX5_node_X4_nextChildAfter : GoodIn wsX5_node (wsV RX5 156 RX4 yX4_nextChildAfter wsX4_nextChildAfter) := goodIn_app (goodIn_of _ (by decide +kernel)) ggX5_node_X4_nextChildAfter
set_option maxRecDepth 20000 in
theorem ggX5_node_X4_childBefore : GoodIn wsX5_node wsX4_childBefore := goodIn_r _ [126, 11, 59, 13, 14, 5, 15, 16, 17, 18, 19, 20, 21, 22, 23, 24, 25, 26, 27, 28, 29, 30, 31, 32, 33, 34, 35, 36, 37, 38, 39, 40, 41, 42, 43, 44, 45, 46, 47, 48, 49, 50, 51, 52, 53, 54, 109, 65, 66, 67, 115, 116, 117, 118, 60, 61, 62, 63, 64, 68, 69, 70, 71, 72, 73, 74, 75, 76, 77, 78, 79, 80, 81, 82, 83, 84, 85, 86, 87, 88, 89, 90, 101, 102, 103, 104, 175, 176, 177, 178, 179, 180, 181, 182, 183] (by decide +kernel) (by decide +kernel)
set_option maxRecDepth 20000 in
theorem gX5_node_X4_childBefore : GoodIn wsX5_node (wsV RX5 159 RX4 yX4_childBefore wsX4_childBefore) := goodIn_app (goodIn_of _ (by decide +kernel)) ggX5_node_X4_childBefore
set_option maxRecDepth 20000 in
theorem ggX5_node_X4_childrenOf : GoodIn wsX5_node wsX4_childrenOf := goodIn_r _ [130, 11, 59, 13, 14, 5, 15, 16, 17, 18, 19, 20, 21, 22, 23, 24, 25, 26, 27, 28, 29, 30, 31, 32, 33, 34, 35, 36, 37, 38, 39, 40, 41, 42, 43, 44, 45, 46, 47, 48, 49, 50, 51, 52, 53, 54, 60, 61, 62, 63, 64, 65, 66, 67, 68, 69, 70, 71, 72, 73, 74, 75, 76, 77, 78, 79, 80, 81, 82, 83, 84, 85, 86, 87, 88, 89, 90, 95, 131, 132, 133, 134, 175, 176, 177, 178, 179, 180, 181, 182, 183] (by decide +kernel) (by decide +kernel)
set_option maxRecDepth 20000 in
theorem gX5_node_X4_childrenOf : GoodIn wsX5_node (wsV RX5 162 RX4 yX4_childrenOf wsX4_childrenOf) := goodIn_app (goodIn_of _ (by decide +kernel)) ggX5_node_X4_childrenOf
set_option maxRecDepth 20000 in
theorem ggX5_node_X4_nodesOf : GoodIn wsX5_node wsX4_nodesOf := goodIn_r _ [138, 11, 59, 13, 14, 5, 15, 16, 17, 18, 19, 20, 21, 22, 23, 24, 25, 26, 27, 28, 29, 30, 31, 32, 33, 34, 35, 36, 37, 38, 39, 40, 41, 42, 43, 44, 45, 46, 47, 48, 49, 50, 51, 52, 53, 54, 60, 61, 62, 63, 64, 65, 66, 67, 68, 69, 70, 71, 72, 73, 74, 75, 76, 77, 78, 79, 80, 81, 82, 83, 84, 85, 86, 87, 88, 89, 90, 175, 176, 177, 178, 179, 180, 181, 182, 183] (by decide +kernel) (by decide +kernel)
set_option maxRecDepth 20000 in
theorem gX5_node_X4_nodesOf : GoodIn wsX5_node (wsV RX5 165 RX4 yX4_nodesOf wsX4_nodesOf) := goodIn_app (goodIn_of _ (by decide +kernel)) ggX5_node_X4_nodesOf
set_option maxRecDepth 20000 in
theorem ggX5_node_X4_leavesOf : GoodIn wsX5_node wsX4_leavesOf := goodIn_r _ [142, 11, 59, 13, 14, 5, 15, 16, 17, 18, 19, 20, 21, 22, 23, 24, 25, 26, 27, 28, 29, 30, 31, 32, 33, 34, 35, 36, 37, 38, 39, 40, 41, 42, 43, 44, 45, 46, 47, 48, 49, 50, 51, 52, 53, 54, 60, 61, 62, 63, 64, 65, 66, 67, 68, 69, 70, 71, 72, 73, 74, 75, 76, 77, 78, 79, 80, 81, 82, 83, 84, 85, 86, 87, 88, 89, 90, 143, 144, 145, 146, 175, 176, 177, 178, 179, 180, 181, 182, 183] (by decide +kernel) (by decide +kernel)
set_option maxRecDepth 20000 in
theorem gX5_node_X4_leavesOf : GoodIn wsX5_node (wsV RX5 168 RX4 yX4_leavesOf wsX4_leavesOf) := goodIn_app (goodIn_of _ (by decide +kernel)) ggX5_node_X4_leavesOf
set_option maxRecDepth 20000 in
theorem ggX5_node_X4_heightOf : GoodIn wsX5_node wsX4_heightOf := goodIn_r _ [150, 11, 59, 13, 14, 5, 15, 16, 17, 18, 19, 20, 21, 22, 23, 24, 25, 26, 27, 28, 29, 30, 31, 32, 33, 34, 35, 36, 37, 38, 39, 40, 41, 42, 43, 44, 45, 46, 47, 48, 49, 50, 51, 52, 53, 54, 60, 61, 62, 63, 64, 65, 66, 67, 68, 69, 70, 71, 72, 73, 74, 75, 76, 77, 78, 79, 80, 81, 82, 83, 84, 85, 86, 87, 88, 89, 90, 151, 152, 153, 154, 155, 156, 157, 158, 159, 160, 161, 95, 175, 176, 177, 178, 179, 180, 181, 182, 183] (by decide +kernel) (by decide +kernel)
set_option maxRecDepth 20000 in
theorem gX5_node_X4_heightOf : GoodIn wsX5_node (wsV RX5 83 RX4 yX4_heightOf wsX4_heightOf) := goodIn_app (goodIn_of _ (by decide +kernel)) ggX5_node_X4_heightOf
set_option maxRecDepth 20000 in
theorem ggX5_node_X1_signsAhead : GoodIn wsX5_node wsX1_signsAhead := goodIn_r _ [146, 21, 22, 23, 19, 24, 25, 26, 27, 28, 29, 30, 31, 32, 33, 34, 35, 36, 37, 38, 39, 40, 41, 42, 43, 48, 49, 50, 51, 52, 53, 54, 178, 179, 180, 181, 182, 183] (by decide +kernel) (by decide +kernel)
set_option maxRecDepth 20000 in
theorem gX5_node_X1_signsAhead : GoodIn wsX5_node (wsV RX5 79 RX1 yX1_signsAhead wsX1_signsAhead) := goodIn_app (goodIn_of _ (by decide +kernel)) ggX5_node_X1_signsAhead
set_option maxRecDepth 20000 in
theorem ggX5_node_X4_orderOf : GoodIn wsX5_node wsX4_orderOf := goodIn_r _ [166, 11, 59, 13, 14, 5, 15, 16, 17, 18, 19, 20, 21, 22, 23, 24, 25, 26, 27, 28, 29, 30, 31, 32, 33, 34, 35, 36, 37, 38, 39, 40, 41, 42, 43, 44, 45, 46, 47, 48, 49, 50, 51, 52, 53, 54, 167, 97, 98, 99, 95, 69, 70, 71, 100, 88, 89, 90, 76, 68, 83, 84, 85, 86, 77, 78, 79, 80, 81, 82, 101, 102, 103, 104, 131, 132, 133, 134, 175, 176, 177, 178, 179, 180, 181, 182, 183] (by decide +kernel) (by decide +kernel)
set_option maxRecDepth 20000 in
theorem gX5_node_X4_orderOf : GoodIn wsX5_node (wsV RX5 171 RX4 yX4_orderOf wsX4_orderOf) := goodIn_app (goodIn_of _ (by decide +kernel)) ggX5_node_X4_orderOf
theorem dX5_node_0 : decode cX5_node 0 = .ok (.aload_n 0, 1) := by decide +kernel
theorem dX5_node_1 : decode cX5_node 1 = .ok (.getfield 12, 3) := by decide +kernel
theorem dX5_node_4 : decode cX5_node 4 = .ok (.iload_n 1, 1) := by decide +kernel
theorem dX5_node_5 : decode cX5_node 5 = .ok (.invokevirtual 135, 3) := by decide +kernel
theorem dX5_node_8 : decode cX5_node 8 = .ok (.ifCond .ne 5, 3) := by decide +kernel
theorem dX5_node_11 : decode cX5_node 11 = .ok (.iconst (-1), 1) := by decide +kernel
theorem dX5_node_12 : decode cX5_node 12 = .ok (.ireturn, 1) := by decide +kernel
theorem dX5_node_13 : decode cX5_node 13 = .ok (.iload_n 2, 1) := by decide +kernel
theorem dX5_node_14 : decode cX5_node 14 = .ok (.tableswitch 208 0 13 #[70, 79, 88, 97, 107, 116, 125, 134, 143, 152, 161, 170, 179, 199], 70) := by decide +kernel
theorem dX5_node_84 : decode cX5_node 84 = .ok (.aload_n 0, 1) := by decide +kernel
theorem dX5_node_85 : decode cX5_node 85 = .ok (.getfield 12, 3) := by decide +kernel
theorem dX5_node_88 : decode cX5_node 88 = .ok (.iload_n 1, 1) := by decide +kernel
theorem dX5_node_89 : decode cX5_node 89 = .ok (.invokevirtual 138, 3) := by decide +kernel
theorem dX5_node_92 : decode cX5_node 92 = .ok (.ireturn, 1) := by decide +kernel
theorem dX5_node_93 : decode cX5_node 93 = .ok (.aload_n 0, 1) := by decide +kernel
theorem dX5_node_94 : decode cX5_node 94 = .ok (.getfield 12, 3) := by decide +kernel
theorem dX5_node_97 : decode cX5_node 97 = .ok (.iload_n 1, 1) := by decide +kernel
theorem dX5_node_98 : decode cX5_node 98 = .ok (.invokevirtual 141, 3) := by decide +kernel
theorem dX5_node_101 : decode cX5_node 101 = .ok (.ireturn, 1) := by decide +kernel
theorem dX5_node_102 : decode cX5_node 102 = .ok (.aload_n 0, 1) := by decide +kernel
theorem dX5_node_103 : decode cX5_node 103 = .ok (.getfield 12, 3) := by decide +kernel
theorem dX5_node_106 : decode cX5_node 106 = .ok (.iload_n 1, 1) := by decide +kernel
theorem dX5_node_107 : decode cX5_node 107 = .ok (.invokevirtual 144, 3) := by decide +kernel
theorem dX5_node_110 : decode cX5_node 110 = .ok (.ireturn, 1) := by decide +kernel
theorem dX5_node_111 : decode cX5_node 111 = .ok (.aload_n 0, 1) := by decide +kernel
theorem dX5_node_112 : decode cX5_node 112 = .ok (.getfield 12, 3) := by decide +kernel
theorem dX5_node_115 : decode cX5_node 115 = .ok (.iload_n 1, 1) := by decide +kernel
theorem dX5_node_116 : decode cX5_node 116 = .ok (.iconst 1, 1) := by decide +kernel
theorem dX5_node_117 : decode cX5_node 117 = .ok (.invokevirtual 147, 3) := by decide +kernel
theorem dX5_node_120 : decode cX5_node 120 = .ok (.ireturn, 1) := by decide +kernel
theorem dX5_node_121 : decode cX5_node 121 = .ok (.aload_n 0, 1) := by decide +kernel
theorem dX5_node_122 : decode cX5_node 122 = .ok (.getfield 12, 3) := by decide +kernel
theorem dX5_node_125 : decode cX5_node 125 = .ok (.iload_n 1, 1) := by decide +kernel
theorem dX5_node_126 : decode cX5_node 126 = .ok (.invokevirtual 150, 3) := by decide +kernel
theorem dX5_node_129 : decode cX5_node 129 = .ok (.ireturn, 1) := by decide +kernel
theorem dX5_node_130 : decode cX5_node 130 = .ok (.aload_n 0, 1) := by decide +kernel
theorem dX5_node_131 : decode cX5_node 131 = .ok (.getfield 12, 3) := by decide +kernel
theorem dX5_node_134 : decode cX5_node 134 = .ok (.iload_n 1, 1) := by decide +kernel
theorem dX5_node_135 : decode cX5_node 135 = .ok (.invokevirtual 153, 3) := by decide +kernel
theorem dX5_node_138 : decode cX5_node 138 = .ok (.ireturn, 1) := by decide +kernel
theorem dX5_node_139 : decode cX5_node 139 = .ok (.aload_n 0, 1) := by decide +kernel
theorem dX5_node_140 : decode cX5_node 140 = .ok (.getfield 12, 3) := by decide +kernel
theorem dX5_node_143 : decode cX5_node 143 = .ok (.iload_n 1, 1) := by decide +kernel
theorem dX5_node_144 : decode cX5_node 144 = .ok (.invokevirtual 156, 3) := by decide +kernel
theorem dX5_node_147 : decode cX5_node 147 = .ok (.ireturn, 1) := by decide +kernel
theorem dX5_node_148 : decode cX5_node 148 = .ok (.aload_n 0, 1) := by decide +kernel
theorem dX5_node_149 : decode cX5_node 149 = .ok (.getfield 12, 3) := by decide +kernel
theorem dX5_node_152 : decode cX5_node 152 = .ok (.iload_n 1, 1) := by decide +kernel
theorem dX5_node_153 : decode cX5_node 153 = .ok (.invokevirtual 159, 3) := by decide +kernel
theorem dX5_node_156 : decode cX5_node 156 = .ok (.ireturn, 1) := by decide +kernel
theorem dX5_node_157 : decode cX5_node 157 = .ok (.aload_n 0, 1) := by decide +kernel
theorem dX5_node_158 : decode cX5_node 158 = .ok (.getfield 12, 3) := by decide +kernel
theorem dX5_node_161 : decode cX5_node 161 = .ok (.iload_n 1, 1) := by decide +kernel
theorem dX5_node_162 : decode cX5_node 162 = .ok (.invokevirtual 162, 3) := by decide +kernel
theorem dX5_node_165 : decode cX5_node 165 = .ok (.ireturn, 1) := by decide +kernel
theorem dX5_node_166 : decode cX5_node 166 = .ok (.aload_n 0, 1) := by decide +kernel
theorem dX5_node_167 : decode cX5_node 167 = .ok (.getfield 12, 3) := by decide +kernel
theorem dX5_node_170 : decode cX5_node 170 = .ok (.iload_n 1, 1) := by decide +kernel
theorem dX5_node_171 : decode cX5_node 171 = .ok (.invokevirtual 165, 3) := by decide +kernel
theorem dX5_node_174 : decode cX5_node 174 = .ok (.ireturn, 1) := by decide +kernel
theorem dX5_node_175 : decode cX5_node 175 = .ok (.aload_n 0, 1) := by decide +kernel
theorem dX5_node_176 : decode cX5_node 176 = .ok (.getfield 12, 3) := by decide +kernel
theorem dX5_node_179 : decode cX5_node 179 = .ok (.iload_n 1, 1) := by decide +kernel
theorem dX5_node_180 : decode cX5_node 180 = .ok (.invokevirtual 168, 3) := by decide +kernel
theorem dX5_node_183 : decode cX5_node 183 = .ok (.ireturn, 1) := by decide +kernel
theorem dX5_node_184 : decode cX5_node 184 = .ok (.aload_n 0, 1) := by decide +kernel
theorem dX5_node_185 : decode cX5_node 185 = .ok (.getfield 12, 3) := by decide +kernel
theorem dX5_node_188 : decode cX5_node 188 = .ok (.iload_n 1, 1) := by decide +kernel
theorem dX5_node_189 : decode cX5_node 189 = .ok (.invokevirtual 83, 3) := by decide +kernel
theorem dX5_node_192 : decode cX5_node 192 = .ok (.ireturn, 1) := by decide +kernel
theorem dX5_node_193 : decode cX5_node 193 = .ok (.aload_n 0, 1) := by decide +kernel
theorem dX5_node_194 : decode cX5_node 194 = .ok (.getfield 12, 3) := by decide +kernel
theorem dX5_node_197 : decode cX5_node 197 = .ok (.getfield 70, 3) := by decide +kernel
theorem dX5_node_200 : decode cX5_node 200 = .ok (.aload_n 0, 1) := by decide +kernel
theorem dX5_node_201 : decode cX5_node 201 = .ok (.getfield 12, 3) := by decide +kernel
theorem dX5_node_204 : decode cX5_node 204 = .ok (.iload_n 1, 1) := by decide +kernel
theorem dX5_node_205 : decode cX5_node 205 = .ok (.invokevirtual 141, 3) := by decide +kernel
theorem dX5_node_208 : decode cX5_node 208 = .ok (.iconst 1, 1) := by decide +kernel
theorem dX5_node_209 : decode cX5_node 209 = .ok (.invokevirtual 79, 3) := by decide +kernel
theorem dX5_node_212 : decode cX5_node 212 = .ok (.ireturn, 1) := by decide +kernel
theorem dX5_node_213 : decode cX5_node 213 = .ok (.aload_n 0, 1) := by decide +kernel
theorem dX5_node_214 : decode cX5_node 214 = .ok (.getfield 12, 3) := by decide +kernel
theorem dX5_node_217 : decode cX5_node 217 = .ok (.iload_n 1, 1) := by decide +kernel
theorem dX5_node_218 : decode cX5_node 218 = .ok (.invokevirtual 171, 3) := by decide +kernel
theorem dX5_node_221 : decode cX5_node 221 = .ok (.ireturn, 1) := by decide +kernel
theorem dX5_node_222 : decode cX5_node 222 = .ok (.iconst (-1), 1) := by decide +kernel
theorem dX5_node_223 : decode cX5_node 223 = .ok (.ireturn, 1) := by decide +kernel
set_option maxRecDepth 20000 in
theorem ggX5_child_X4_has : GoodIn wsX5_child wsX4_has := goodIn_r _ [6, 7, 8, 9, 5, 10, 11, 98, 99, 100, 101, 102, 103, 104, 105, 106] (by decide +kernel) (by decide +kernel)
set_option maxRecDepth 20000 in
theorem gX5_child_X4_has : GoodIn wsX5_child (wsV RX5 135 RX4 yX4_has wsX4_has) := goodIn_app (goodIn_of _ (by decide +kernel)) ggX5_child_X4_has
set_option maxRecDepth 20000 in
theorem ggX5_child_X4_childAt : GoodIn wsX5_child wsX4_childAt := goodIn_r _ [15, 11, 16, 17, 18, 5, 19, 20, 21, 22, 23, 24, 25, 26, 27, 28, 29, 30, 31, 32, 33, 34, 35, 36, 37, 38, 39, 40, 41, 42, 43, 44, 45, 46, 47, 48, 49, 50, 51, 52, 53, 54, 55, 56, 57, 58, 59, 60, 61, 62, 63, 64, 65, 66, 67, 68, 69, 70, 71, 72, 73, 74, 75, 76, 77, 78, 79, 80, 81, 82, 83, 84, 85, 86, 87, 88, 89, 90, 98, 99, 100, 101, 102, 103, 104, 105, 106] (by decide +kernel) (by decide +kernel)
set_option maxRecDepth 20000 in
theorem gX5_child_X4_childAt : GoodIn wsX5_child (wsV RX5 174 RX4 yX4_childAt wsX4_childAt) := goodIn_app (goodIn_of _ (by decide +kernel)) ggX5_child_X4_childAt
theorem dX5_child_0 : decode cX5_child 0 = .ok (.aload_n 0, 1) := by decide +kernel
theorem dX5_child_1 : decode cX5_child 1 = .ok (.getfield 12, 3) := by decide +kernel
theorem dX5_child_4 : decode cX5_child 4 = .ok (.iload_n 1, 1) := by decide +kernel
theorem dX5_child_5 : decode cX5_child 5 = .ok (.invokevirtual 135, 3) := by decide +kernel
theorem dX5_child_8 : decode cX5_child 8 = .ok (.ifCond .eq 7, 3) := by decide +kernel
theorem dX5_child_11 : decode cX5_child 11 = .ok (.iload_n 2, 1) := by decide +kernel
theorem dX5_child_12 : decode cX5_child 12 = .ok (.ifCond .ge 5, 3) := by decide +kernel
theorem dX5_child_15 : decode cX5_child 15 = .ok (.iconst (-1), 1) := by decide +kernel
theorem dX5_child_16 : decode cX5_child 16 = .ok (.ireturn, 1) := by decide +kernel
theorem dX5_child_17 : decode cX5_child 17 = .ok (.aload_n 0, 1) := by decide +kernel
theorem dX5_child_18 : decode cX5_child 18 = .ok (.getfield 12, 3) := by decide +kernel
theorem dX5_child_21 : decode cX5_child 21 = .ok (.iload_n 1, 1) := by decide +kernel
theorem dX5_child_22 : decode cX5_child 22 = .ok (.iload_n 2, 1) := by decide +kernel
theorem dX5_child_23 : decode cX5_child 23 = .ok (.invokevirtual 174, 3) := by decide +kernel
theorem dX5_child_26 : decode cX5_child 26 = .ok (.ireturn, 1) := by decide +kernel
set_option maxRecDepth 20000 in
theorem ggX5_below_X4_has : GoodIn wsX5_below wsX4_has := goodIn_r _ [6, 7, 8, 9, 5, 10, 11, 98, 99, 100, 101, 102, 103, 104, 105, 106] (by decide +kernel) (by decide +kernel)
set_option maxRecDepth 20000 in
theorem gX5_below_X4_has : GoodIn wsX5_below (wsV RX5 135 RX4 yX4_has wsX4_has) := goodIn_app (goodIn_of _ (by decide +kernel)) ggX5_below_X4_has
set_option maxRecDepth 20000 in
theorem ggX5_below_X1_placeOfSign : GoodIn wsX5_below wsX1_placeOfSign := goodIn_r _ [16, 17, 18, 19, 15, 20, 21, 22, 23, 24, 25, 26, 27, 28, 29, 30, 31, 32, 33, 34, 35, 36, 37, 38, 39, 40, 41, 42, 43, 44, 45, 46, 47, 48, 49, 50, 101, 102, 103, 104, 105, 106] (by decide +kernel) (by decide +kernel)
set_option maxRecDepth 20000 in
theorem gX5_below_X1_placeOfSign : GoodIn wsX5_below (wsV RX5 102 RX1 yX1_placeOfSign wsX1_placeOfSign) := goodIn_app (goodIn_of _ (by decide +kernel)) ggX5_below_X1_placeOfSign
set_option maxRecDepth 20000 in
theorem ggX5_below_X4_nodeWithPlace : GoodIn wsX5_below wsX4_nodeWithPlace := goodIn_r _ [54, 11, 55, 56, 57, 15, 58, 21, 24, 59, 60, 61, 62, 63, 64, 65, 66, 67, 25, 26, 27, 28, 29, 33, 34, 35, 36, 37, 38, 39, 68, 69, 70, 71, 23, 72, 73, 74, 75, 76, 77, 78, 79, 80, 81, 82, 83, 84, 85, 86, 87, 88, 89, 90, 98, 99, 100, 101, 102, 103, 104, 105, 106] (by decide +kernel) (by decide +kernel)
set_option maxRecDepth 20000 in
theorem gX5_below_X4_nodeWithPlace : GoodIn wsX5_below (wsV RX5 177 RX4 yX4_nodeWithPlace wsX4_nodeWithPlace) := goodIn_app (goodIn_of _ (by decide +kernel)) ggX5_below_X4_nodeWithPlace
theorem dX5_below_0 : decode cX5_below 0 = .ok (.aload_n 0, 1) := by decide +kernel
theorem dX5_below_1 : decode cX5_below 1 = .ok (.getfield 12, 3) := by decide +kernel
theorem dX5_below_4 : decode cX5_below 4 = .ok (.iload_n 1, 1) := by decide +kernel
theorem dX5_below_5 : decode cX5_below 5 = .ok (.invokevirtual 135, 3) := by decide +kernel
theorem dX5_below_8 : decode cX5_below 8 = .ok (.ifCond .ne 5, 3) := by decide +kernel
theorem dX5_below_11 : decode cX5_below 11 = .ok (.iconst (-1), 1) := by decide +kernel
theorem dX5_below_12 : decode cX5_below 12 = .ok (.ireturn, 1) := by decide +kernel
theorem dX5_below_13 : decode cX5_below 13 = .ok (.aload_n 0, 1) := by decide +kernel
theorem dX5_below_14 : decode cX5_below 14 = .ok (.getfield 12, 3) := by decide +kernel
theorem dX5_below_17 : decode cX5_below 17 = .ok (.aload_n 0, 1) := by decide +kernel
theorem dX5_below_18 : decode cX5_below 18 = .ok (.getfield 12, 3) := by decide +kernel
theorem dX5_below_21 : decode cX5_below 21 = .ok (.getfield 70, 3) := by decide +kernel
theorem dX5_below_24 : decode cX5_below 24 = .ok (.iload_n 1, 1) := by decide +kernel
theorem dX5_below_25 : decode cX5_below 25 = .ok (.iconst 1, 1) := by decide +kernel
theorem dX5_below_26 : decode cX5_below 26 = .ok (.invokevirtual 102, 3) := by decide +kernel
theorem dX5_below_29 : decode cX5_below 29 = .ok (.invokevirtual 177, 3) := by decide +kernel
theorem dX5_below_32 : decode cX5_below 32 = .ok (.ireturn, 1) := by decide +kernel
set_option maxRecDepth 20000 in
theorem ggX5_up_X4_has : GoodIn wsX5_up wsX4_has := goodIn_r _ [6, 7, 8, 9, 5, 10, 11, 90, 91, 92, 93, 94, 95, 96, 97, 98] (by decide +kernel) (by decide +kernel)
set_option maxRecDepth 20000 in
theorem gX5_up_X4_has : GoodIn wsX5_up (wsV RX5 135 RX4 yX4_has wsX4_has) := goodIn_app (goodIn_of _ (by decide +kernel)) ggX5_up_X4_has
set_option maxRecDepth 20000 in
theorem ggX5_up_X4_aboveBy : GoodIn wsX5_up wsX4_aboveBy := goodIn_r _ [15, 11, 16, 17, 18, 5, 19, 20, 21, 22, 23, 24, 25, 26, 27, 28, 29, 30, 31, 32, 33, 34, 35, 36, 37, 38, 39, 40, 41, 42, 43, 44, 45, 46, 47, 48, 49, 50, 51, 52, 53, 54, 55, 56, 57, 58, 59, 60, 61, 62, 63, 64, 65, 66, 67, 68, 69, 70, 71, 72, 73, 74, 75, 76, 77, 78, 79, 80, 81, 82, 90, 91, 92, 93, 94, 95, 96, 97, 98] (by decide +kernel) (by decide +kernel)
set_option maxRecDepth 20000 in
theorem gX5_up_X4_aboveBy : GoodIn wsX5_up (wsV RX5 147 RX4 yX4_aboveBy wsX4_aboveBy) := goodIn_app (goodIn_of _ (by decide +kernel)) ggX5_up_X4_aboveBy
theorem dX5_up_0 : decode cX5_up 0 = .ok (.aload_n 0, 1) := by decide +kernel
theorem dX5_up_1 : decode cX5_up 1 = .ok (.getfield 12, 3) := by decide +kernel
theorem dX5_up_4 : decode cX5_up 4 = .ok (.iload_n 1, 1) := by decide +kernel
theorem dX5_up_5 : decode cX5_up 5 = .ok (.invokevirtual 135, 3) := by decide +kernel
theorem dX5_up_8 : decode cX5_up 8 = .ok (.ifCond .eq 7, 3) := by decide +kernel
theorem dX5_up_11 : decode cX5_up 11 = .ok (.iload_n 2, 1) := by decide +kernel
theorem dX5_up_12 : decode cX5_up 12 = .ok (.ifCond .ge 5, 3) := by decide +kernel
theorem dX5_up_15 : decode cX5_up 15 = .ok (.iconst (-1), 1) := by decide +kernel
theorem dX5_up_16 : decode cX5_up 16 = .ok (.ireturn, 1) := by decide +kernel
theorem dX5_up_17 : decode cX5_up 17 = .ok (.aload_n 0, 1) := by decide +kernel
theorem dX5_up_18 : decode cX5_up 18 = .ok (.getfield 12, 3) := by decide +kernel
theorem dX5_up_21 : decode cX5_up 21 = .ok (.iload_n 1, 1) := by decide +kernel
theorem dX5_up_22 : decode cX5_up 22 = .ok (.iload_n 2, 1) := by decide +kernel
theorem dX5_up_23 : decode cX5_up 23 = .ok (.invokevirtual 147, 3) := by decide +kernel
theorem dX5_up_26 : decode cX5_up 26 = .ok (.ireturn, 1) := by decide +kernel
set_option maxRecDepth 20000 in
theorem ggX5_meet_X4_has : GoodIn wsX5_meet wsX4_has := goodIn_r _ [6, 7, 8, 9, 5, 10, 11, 102, 103, 104, 105, 106, 107, 108, 109, 110] (by decide +kernel) (by decide +kernel)
set_option maxRecDepth 20000 in
theorem gX5_meet_X4_has : GoodIn wsX5_meet (wsV RX5 135 RX4 yX4_has wsX4_has) := goodIn_app (goodIn_of _ (by decide +kernel)) ggX5_meet_X4_has
set_option maxRecDepth 20000 in
theorem ggX5_meet_X4_meetingOf : GoodIn wsX5_meet wsX4_meetingOf := goodIn_r _ [15, 16, 17, 18, 19, 20, 21, 22, 11, 23, 24, 25, 5, 26, 27, 28, 29, 30, 31, 32, 33, 34, 35, 36, 37, 38, 39, 40, 41, 42, 43, 44, 45, 46, 47, 48, 49, 50, 51, 52, 53, 54, 55, 56, 57, 58, 59, 60, 61, 62, 63, 64, 65, 66, 67, 68, 69, 70, 71, 72, 73, 74, 75, 76, 77, 78, 79, 80, 81, 82, 83, 84, 85, 86, 87, 88, 89, 90, 91, 92, 93, 94, 102, 103, 104, 105, 106, 107, 108, 109, 110] (by decide +kernel) (by decide +kernel)
set_option maxRecDepth 20000 in
theorem gX5_meet_X4_meetingOf : GoodIn wsX5_meet (wsV RX5 180 RX4 yX4_meetingOf wsX4_meetingOf) := goodIn_app (goodIn_of _ (by decide +kernel)) ggX5_meet_X4_meetingOf
theorem dX5_meet_0 : decode cX5_meet 0 = .ok (.aload_n 0, 1) := by decide +kernel
theorem dX5_meet_1 : decode cX5_meet 1 = .ok (.getfield 12, 3) := by decide +kernel
theorem dX5_meet_4 : decode cX5_meet 4 = .ok (.iload_n 1, 1) := by decide +kernel
theorem dX5_meet_5 : decode cX5_meet 5 = .ok (.invokevirtual 135, 3) := by decide +kernel
theorem dX5_meet_8 : decode cX5_meet 8 = .ok (.ifCond .eq 14, 3) := by decide +kernel
theorem dX5_meet_11 : decode cX5_meet 11 = .ok (.aload_n 0, 1) := by decide +kernel
theorem dX5_meet_12 : decode cX5_meet 12 = .ok (.getfield 12, 3) := by decide +kernel
theorem dX5_meet_15 : decode cX5_meet 15 = .ok (.iload_n 2, 1) := by decide +kernel
theorem dX5_meet_16 : decode cX5_meet 16 = .ok (.invokevirtual 135, 3) := by decide +kernel
theorem dX5_meet_19 : decode cX5_meet 19 = .ok (.ifCond .ne 5, 3) := by decide +kernel
theorem dX5_meet_22 : decode cX5_meet 22 = .ok (.iconst (-1), 1) := by decide +kernel
theorem dX5_meet_23 : decode cX5_meet 23 = .ok (.ireturn, 1) := by decide +kernel
theorem dX5_meet_24 : decode cX5_meet 24 = .ok (.aload_n 0, 1) := by decide +kernel
theorem dX5_meet_25 : decode cX5_meet 25 = .ok (.getfield 12, 3) := by decide +kernel
theorem dX5_meet_28 : decode cX5_meet 28 = .ok (.iload_n 1, 1) := by decide +kernel
theorem dX5_meet_29 : decode cX5_meet 29 = .ok (.iload_n 2, 1) := by decide +kernel
theorem dX5_meet_30 : decode cX5_meet 30 = .ok (.invokevirtual 180, 3) := by decide +kernel
theorem dX5_meet_33 : decode cX5_meet 33 = .ok (.ireturn, 1) := by decide +kernel
set_option maxRecDepth 20000 in
theorem ggX5_way_X4_has : GoodIn wsX5_way wsX4_has := goodIn_r _ [6, 7, 8, 9, 5, 10, 11, 107, 108, 109, 110, 111, 112, 113, 114, 115] (by decide +kernel) (by decide +kernel)
set_option maxRecDepth 20000 in
theorem gX5_way_X4_has : GoodIn wsX5_way (wsV RX5 135 RX4 yX4_has wsX4_has) := goodIn_app (goodIn_of _ (by decide +kernel)) ggX5_way_X4_has
set_option maxRecDepth 20000 in
theorem ggX5_way_X4_depthOf : GoodIn wsX5_way wsX4_depthOf := goodIn_r _ [15, 11, 16, 17, 18, 5, 19, 20, 21, 22, 23, 24, 25, 26, 27, 28, 29, 30, 31, 32, 33, 34, 35, 36, 37, 38, 39, 40, 41, 42, 43, 44, 45, 46, 47, 48, 49, 50, 51, 52, 53, 54, 55, 56, 57, 58, 59, 60, 61, 62, 107, 108, 109, 110, 111, 112, 113, 114, 115] (by decide +kernel) (by decide +kernel)
set_option maxRecDepth 20000 in
theorem gX5_way_X4_depthOf : GoodIn wsX5_way (wsV RX5 144 RX4 yX4_depthOf wsX4_depthOf) := goodIn_app (goodIn_of _ (by decide +kernel)) ggX5_way_X4_depthOf
set_option maxRecDepth 20000 in
theorem ggX5_way_X4_meetingOf : GoodIn wsX5_way wsX4_meetingOf := goodIn_r _ [66, 67, 68, 69, 70, 71, 72, 73, 11, 16, 17, 18, 5, 19, 20, 21, 22, 23, 24, 25, 26, 27, 28, 29, 30, 31, 32, 33, 34, 35, 36, 37, 38, 39, 40, 41, 42, 43, 44, 45, 46, 47, 48, 49, 50, 51, 52, 53, 54, 55, 56, 57, 58, 74, 75, 76, 77, 78, 79, 80, 81, 82, 83, 60, 61, 62, 84, 85, 86, 87, 88, 89, 90, 91, 92, 93, 94, 95, 96, 97, 98, 99, 107, 108, 109, 110, 111, 112, 113, 114, 115] (by decide +kernel) (by decide +kernel)
set_option maxRecDepth 20000 in
theorem gX5_way_X4_meetingOf : GoodIn wsX5_way (wsV RX5 180 RX4 yX4_meetingOf wsX4_meetingOf) := goodIn_app (goodIn_of _ (by decide +kernel)) ggX5_way_X4_meetingOf
theorem dX5_way_0 : decode cX5_way 0 = .ok (.aload_n 0, 1) := by decide +kernel
theorem dX5_way_1 : decode cX5_way 1 = .ok (.getfield 12, 3) := by decide +kernel
theorem dX5_way_4 : decode cX5_way 4 = .ok (.iload_n 1, 1) := by decide +kernel
theorem dX5_way_5 : decode cX5_way 5 = .ok (.invokevirtual 135, 3) := by decide +kernel
theorem dX5_way_8 : decode cX5_way 8 = .ok (.ifCond .eq 14, 3) := by decide +kernel
theorem dX5_way_11 : decode cX5_way 11 = .ok (.aload_n 0, 1) := by decide +kernel
theorem dX5_way_12 : decode cX5_way 12 = .ok (.getfield 12, 3) := by decide +kernel
theorem dX5_way_15 : decode cX5_way 15 = .ok (.iload_n 2, 1) := by decide +kernel
theorem dX5_way_16 : decode cX5_way 16 = .ok (.invokevirtual 135, 3) := by decide +kernel
theorem dX5_way_19 : decode cX5_way 19 = .ok (.ifCond .ne 5, 3) := by decide +kernel
theorem dX5_way_22 : decode cX5_way 22 = .ok (.iconst (-1), 1) := by decide +kernel
theorem dX5_way_23 : decode cX5_way 23 = .ok (.ireturn, 1) := by decide +kernel
theorem dX5_way_24 : decode cX5_way 24 = .ok (.aload_n 0, 1) := by decide +kernel
theorem dX5_way_25 : decode cX5_way 25 = .ok (.getfield 12, 3) := by decide +kernel
theorem dX5_way_28 : decode cX5_way 28 = .ok (.iload_n 1, 1) := by decide +kernel
theorem dX5_way_29 : decode cX5_way 29 = .ok (.invokevirtual 144, 3) := by decide +kernel
theorem dX5_way_32 : decode cX5_way 32 = .ok (.aload_n 0, 1) := by decide +kernel
theorem dX5_way_33 : decode cX5_way 33 = .ok (.getfield 12, 3) := by decide +kernel
theorem dX5_way_36 : decode cX5_way 36 = .ok (.iload_n 2, 1) := by decide +kernel
theorem dX5_way_37 : decode cX5_way 37 = .ok (.invokevirtual 144, 3) := by decide +kernel
theorem dX5_way_40 : decode cX5_way 40 = .ok (.iadd, 1) := by decide +kernel
theorem dX5_way_41 : decode cX5_way 41 = .ok (.iconst 2, 1) := by decide +kernel
theorem dX5_way_42 : decode cX5_way 42 = .ok (.aload_n 0, 1) := by decide +kernel
theorem dX5_way_43 : decode cX5_way 43 = .ok (.getfield 12, 3) := by decide +kernel
theorem dX5_way_46 : decode cX5_way 46 = .ok (.aload_n 0, 1) := by decide +kernel
theorem dX5_way_47 : decode cX5_way 47 = .ok (.getfield 12, 3) := by decide +kernel
theorem dX5_way_50 : decode cX5_way 50 = .ok (.iload_n 1, 1) := by decide +kernel
theorem dX5_way_51 : decode cX5_way 51 = .ok (.iload_n 2, 1) := by decide +kernel
theorem dX5_way_52 : decode cX5_way 52 = .ok (.invokevirtual 180, 3) := by decide +kernel
theorem dX5_way_55 : decode cX5_way 55 = .ok (.invokevirtual 144, 3) := by decide +kernel
theorem dX5_way_58 : decode cX5_way 58 = .ok (.imul, 1) := by decide +kernel
theorem dX5_way_59 : decode cX5_way 59 = .ok (.isub, 1) := by decide +kernel
theorem dX5_way_60 : decode cX5_way 60 = .ok (.ireturn, 1) := by decide +kernel
set_option maxRecDepth 20000 in
theorem ggX5_level_X4_firstOfDepth : GoodIn wsX5_level wsX4_firstOfDepth := goodIn_r _ [6, 7, 8, 9, 10, 11, 12, 13, 14, 15, 16, 17, 18, 19, 20, 21, 22, 23, 24, 25, 26, 27, 28, 29, 30, 31, 32, 33, 34, 35, 36, 37, 38, 39, 40, 41, 42, 43, 44, 45, 46, 82, 83, 84, 85, 86, 87, 88, 89, 90] (by decide +kernel) (by decide +kernel)
set_option maxRecDepth 20000 in
theorem gX5_level_X4_firstOfDepth : GoodIn wsX5_level (wsV RX5 183 RX4 yX4_firstOfDepth wsX4_firstOfDepth) := goodIn_app (goodIn_of _ (by decide +kernel)) ggX5_level_X4_firstOfDepth
set_option maxRecDepth 20000 in
theorem ggX5_level_X4_lastOfDepth : GoodIn wsX5_level wsX4_lastOfDepth := goodIn_r _ [50, 7, 51, 52, 53, 11, 54, 14, 15, 16, 17, 18, 19, 20, 21, 22, 23, 24, 25, 26, 27, 28, 29, 30, 31, 32, 39, 40, 41, 42, 33, 34, 35, 36, 37, 38, 55, 56, 57, 5, 58, 59, 60, 61, 62, 63, 64, 65, 66, 67, 68, 9, 10, 12, 13, 69, 43, 44, 45, 46, 82, 83, 84, 85, 86, 87, 88, 89, 90] (by decide +kernel) (by decide +kernel)
set_option maxRecDepth 20000 in
theorem gX5_level_X4_lastOfDepth : GoodIn wsX5_level (wsV RX5 186 RX4 yX4_lastOfDepth wsX4_lastOfDepth) := goodIn_app (goodIn_of _ (by decide +kernel)) ggX5_level_X4_lastOfDepth
set_option maxRecDepth 20000 in
theorem ggX5_level_X4_howManyOfDepth : GoodIn wsX5_level wsX4_howManyOfDepth := goodIn_r _ [73, 7, 74, 40, 41, 11, 42, 19, 20, 82, 83, 84, 85, 86, 87, 88, 89, 90] (by decide +kernel) (by decide +kernel)
set_option maxRecDepth 20000 in
theorem gX5_level_X4_howManyOfDepth : GoodIn wsX5_level (wsV RX5 189 RX4 yX4_howManyOfDepth wsX4_howManyOfDepth) := goodIn_app (goodIn_of _ (by decide +kernel)) ggX5_level_X4_howManyOfDepth
theorem dX5_level_0 : decode cX5_level 0 = .ok (.iload_n 1, 1) := by decide +kernel
theorem dX5_level_1 : decode cX5_level 1 = .ok (.ifCond .ge 5, 3) := by decide +kernel
theorem dX5_level_4 : decode cX5_level 4 = .ok (.iconst (-1), 1) := by decide +kernel
theorem dX5_level_5 : decode cX5_level 5 = .ok (.ireturn, 1) := by decide +kernel
theorem dX5_level_6 : decode cX5_level 6 = .ok (.iload_n 2, 1) := by decide +kernel
theorem dX5_level_7 : decode cX5_level 7 = .ok (.tableswitch 63 0 2 #[25, 35, 54], 25) := by decide +kernel
theorem dX5_level_32 : decode cX5_level 32 = .ok (.aload_n 0, 1) := by decide +kernel
theorem dX5_level_33 : decode cX5_level 33 = .ok (.getfield 12, 3) := by decide +kernel
theorem dX5_level_36 : decode cX5_level 36 = .ok (.iload_n 1, 1) := by decide +kernel
theorem dX5_level_37 : decode cX5_level 37 = .ok (.iconst 0, 1) := by decide +kernel
theorem dX5_level_38 : decode cX5_level 38 = .ok (.invokevirtual 183, 3) := by decide +kernel
theorem dX5_level_41 : decode cX5_level 41 = .ok (.ireturn, 1) := by decide +kernel
theorem dX5_level_42 : decode cX5_level 42 = .ok (.aload_n 0, 1) := by decide +kernel
theorem dX5_level_43 : decode cX5_level 43 = .ok (.getfield 12, 3) := by decide +kernel
theorem dX5_level_46 : decode cX5_level 46 = .ok (.iload_n 1, 1) := by decide +kernel
theorem dX5_level_47 : decode cX5_level 47 = .ok (.aload_n 0, 1) := by decide +kernel
theorem dX5_level_48 : decode cX5_level 48 = .ok (.getfield 12, 3) := by decide +kernel
theorem dX5_level_51 : decode cX5_level 51 = .ok (.getfield 70, 3) := by decide +kernel
theorem dX5_level_54 : decode cX5_level 54 = .ok (.getfield 74, 3) := by decide +kernel
theorem dX5_level_57 : decode cX5_level 57 = .ok (.invokevirtual 186, 3) := by decide +kernel
theorem dX5_level_60 : decode cX5_level 60 = .ok (.ireturn, 1) := by decide +kernel
theorem dX5_level_61 : decode cX5_level 61 = .ok (.aload_n 0, 1) := by decide +kernel
theorem dX5_level_62 : decode cX5_level 62 = .ok (.getfield 12, 3) := by decide +kernel
theorem dX5_level_65 : decode cX5_level 65 = .ok (.iload_n 1, 1) := by decide +kernel
theorem dX5_level_66 : decode cX5_level 66 = .ok (.invokevirtual 189, 3) := by decide +kernel
theorem dX5_level_69 : decode cX5_level 69 = .ok (.ireturn, 1) := by decide +kernel
theorem dX5_level_70 : decode cX5_level 70 = .ok (.iconst (-1), 1) := by decide +kernel
theorem dX5_level_71 : decode cX5_level 71 = .ok (.ireturn, 1) := by decide +kernel
set_option maxRecDepth 20000 in
theorem ggX5_beside_X4_has : GoodIn wsX5_beside wsX4_has := goodIn_r _ [6, 7, 8, 9, 5, 10, 11, 122, 123, 124, 125, 126, 127, 128, 129, 130] (by decide +kernel) (by decide +kernel)
set_option maxRecDepth 20000 in
theorem gX5_beside_X4_has : GoodIn wsX5_beside (wsV RX5 135 RX4 yX4_has wsX4_has) := goodIn_app (goodIn_of _ (by decide +kernel)) ggX5_beside_X4_has
set_option maxRecDepth 20000 in
theorem ggX5_beside_X4_depthOf : GoodIn wsX5_beside wsX4_depthOf := goodIn_r _ [15, 11, 16, 17, 18, 5, 19, 20, 21, 22, 23, 24, 25, 26, 27, 28, 29, 30, 31, 32, 33, 34, 35, 36, 37, 38, 39, 40, 41, 42, 43, 44, 45, 46, 47, 48, 49, 50, 51, 52, 53, 54, 55, 56, 57, 58, 59, 60, 61, 62, 122, 123, 124, 125, 126, 127, 128, 129, 130] (by decide +kernel) (by decide +kernel)
set_option maxRecDepth 20000 in
theorem gX5_beside_X4_depthOf : GoodIn wsX5_beside (wsV RX5 144 RX4 yX4_depthOf wsX4_depthOf) := goodIn_app (goodIn_of _ (by decide +kernel)) ggX5_beside_X4_depthOf
set_option maxRecDepth 20000 in
theorem ggX5_beside_X4_closeOf : GoodIn wsX5_beside wsX4_closeOf := goodIn_r _ [66, 11, 16, 17, 18, 5, 19, 20, 21, 22, 23, 24, 25, 26, 27, 28, 29, 30, 31, 32, 33, 34, 35, 36, 37, 38, 39, 40, 41, 42, 43, 44, 45, 46, 47, 48, 49, 50, 51, 52, 53, 54, 55, 56, 57, 58, 67, 68, 69, 70, 71, 72, 73, 74, 75, 60, 61, 62, 76, 77, 78, 79, 80, 81, 82, 83, 84, 85, 86, 87, 88, 89, 90, 91, 92, 93, 94, 122, 123, 124, 125, 126, 127, 128, 129, 130] (by decide +kernel) (by decide +kernel)
set_option maxRecDepth 20000 in
theorem gX5_beside_X4_closeOf : GoodIn wsX5_beside (wsV RX5 141 RX4 yX4_closeOf wsX4_closeOf) := goodIn_app (goodIn_of _ (by decide +kernel)) ggX5_beside_X4_closeOf
set_option maxRecDepth 20000 in
theorem ggX5_beside_X4_firstOfDepth : GoodIn wsX5_beside wsX4_firstOfDepth := goodIn_r _ [98, 11, 99, 77, 78, 23, 79, 31, 80, 75, 60, 61, 62, 29, 32, 33, 34, 35, 36, 37, 41, 42, 43, 44, 45, 46, 47, 81, 82, 83, 84, 85, 86, 87, 88, 89, 90, 100, 101, 102, 103, 122, 123, 124, 125, 126, 127, 128, 129, 130] (by decide +kernel) (by decide +kernel)
set_option maxRecDepth 20000 in
theorem gX5_beside_X4_firstOfDepth : GoodIn wsX5_beside (wsV RX5 183 RX4 yX4_firstOfDepth wsX4_firstOfDepth) := goodIn_app (goodIn_of _ (by decide +kernel)) ggX5_beside_X4_firstOfDepth
set_option maxRecDepth 20000 in
theorem ggX5_beside_X4_openOf : GoodIn wsX5_beside wsX4_openOf := goodIn_r _ [19, 11, 20, 21, 22, 23, 24, 25, 26, 27, 28, 29, 30, 31, 32, 33, 34, 35, 36, 37, 38, 39, 40, 41, 42, 43, 44, 45, 46, 47, 48, 49, 50, 51, 52, 53, 54, 55, 56, 57, 58, 122, 123, 124, 125, 126, 127, 128, 129, 130] (by decide +kernel) (by decide +kernel)
set_option maxRecDepth 20000 in
theorem gX5_beside_X4_openOf : GoodIn wsX5_beside (wsV RX5 138 RX4 yX4_openOf wsX4_openOf) := goodIn_app (goodIn_of _ (by decide +kernel)) ggX5_beside_X4_openOf
set_option maxRecDepth 20000 in
theorem ggX5_beside_X4_lastOfDepth : GoodIn wsX5_beside wsX4_lastOfDepth := goodIn_r _ [108, 11, 109, 92, 93, 23, 94, 80, 75, 60, 61, 62, 29, 32, 33, 34, 35, 36, 37, 41, 42, 43, 44, 45, 46, 47, 87, 88, 89, 90, 81, 82, 83, 84, 85, 86, 110, 111, 112, 5, 113, 114, 72, 73, 74, 67, 68, 69, 70, 71, 76, 77, 78, 79, 31, 91, 100, 101, 102, 103, 122, 123, 124, 125, 126, 127, 128, 129, 130] (by decide +kernel) (by decide +kernel)
set_option maxRecDepth 20000 in
theorem gX5_beside_X4_lastOfDepth : GoodIn wsX5_beside (wsV RX5 186 RX4 yX4_lastOfDepth wsX4_lastOfDepth) := goodIn_app (goodIn_of _ (by decide +kernel)) ggX5_beside_X4_lastOfDepth
theorem dX5_beside_0 : decode cX5_beside 0 = .ok (.aload_n 0, 1) := by decide +kernel
theorem dX5_beside_1 : decode cX5_beside 1 = .ok (.getfield 12, 3) := by decide +kernel
theorem dX5_beside_4 : decode cX5_beside 4 = .ok (.iload_n 1, 1) := by decide +kernel
theorem dX5_beside_5 : decode cX5_beside 5 = .ok (.invokevirtual 135, 3) := by decide +kernel
theorem dX5_beside_8 : decode cX5_beside 8 = .ok (.ifCond .ne 5, 3) := by decide +kernel
theorem dX5_beside_11 : decode cX5_beside 11 = .ok (.iconst (-1), 1) := by decide +kernel
theorem dX5_beside_12 : decode cX5_beside 12 = .ok (.ireturn, 1) := by decide +kernel
theorem dX5_beside_13 : decode cX5_beside 13 = .ok (.iload_n 2, 1) := by decide +kernel
theorem dX5_beside_14 : decode cX5_beside 14 = .ok (.lookupswitch 76 #[(0, 26), (1, 52)], 26) := by decide +kernel
theorem dX5_beside_40 : decode cX5_beside 40 = .ok (.aload_n 0, 1) := by decide +kernel
theorem dX5_beside_41 : decode cX5_beside 41 = .ok (.getfield 12, 3) := by decide +kernel
theorem dX5_beside_44 : decode cX5_beside 44 = .ok (.aload_n 0, 1) := by decide +kernel
theorem dX5_beside_45 : decode cX5_beside 45 = .ok (.getfield 12, 3) := by decide +kernel
theorem dX5_beside_48 : decode cX5_beside 48 = .ok (.iload_n 1, 1) := by decide +kernel
theorem dX5_beside_49 : decode cX5_beside 49 = .ok (.invokevirtual 144, 3) := by decide +kernel
theorem dX5_beside_52 : decode cX5_beside 52 = .ok (.aload_n 0, 1) := by decide +kernel
theorem dX5_beside_53 : decode cX5_beside 53 = .ok (.getfield 12, 3) := by decide +kernel
theorem dX5_beside_56 : decode cX5_beside 56 = .ok (.iload_n 1, 1) := by decide +kernel
theorem dX5_beside_57 : decode cX5_beside 57 = .ok (.invokevirtual 141, 3) := by decide +kernel
theorem dX5_beside_60 : decode cX5_beside 60 = .ok (.iconst 1, 1) := by decide +kernel
theorem dX5_beside_61 : decode cX5_beside 61 = .ok (.iadd, 1) := by decide +kernel
theorem dX5_beside_62 : decode cX5_beside 62 = .ok (.invokevirtual 183, 3) := by decide +kernel
theorem dX5_beside_65 : decode cX5_beside 65 = .ok (.ireturn, 1) := by decide +kernel
theorem dX5_beside_66 : decode cX5_beside 66 = .ok (.aload_n 0, 1) := by decide +kernel
theorem dX5_beside_67 : decode cX5_beside 67 = .ok (.getfield 12, 3) := by decide +kernel
theorem dX5_beside_70 : decode cX5_beside 70 = .ok (.aload_n 0, 1) := by decide +kernel
theorem dX5_beside_71 : decode cX5_beside 71 = .ok (.getfield 12, 3) := by decide +kernel
theorem dX5_beside_74 : decode cX5_beside 74 = .ok (.iload_n 1, 1) := by decide +kernel
theorem dX5_beside_75 : decode cX5_beside 75 = .ok (.invokevirtual 144, 3) := by decide +kernel
theorem dX5_beside_78 : decode cX5_beside 78 = .ok (.aload_n 0, 1) := by decide +kernel
theorem dX5_beside_79 : decode cX5_beside 79 = .ok (.getfield 12, 3) := by decide +kernel
theorem dX5_beside_82 : decode cX5_beside 82 = .ok (.iload_n 1, 1) := by decide +kernel
theorem dX5_beside_83 : decode cX5_beside 83 = .ok (.invokevirtual 138, 3) := by decide +kernel
theorem dX5_beside_86 : decode cX5_beside 86 = .ok (.invokevirtual 186, 3) := by decide +kernel
theorem dX5_beside_89 : decode cX5_beside 89 = .ok (.ireturn, 1) := by decide +kernel
theorem dX5_beside_90 : decode cX5_beside 90 = .ok (.iconst (-1), 1) := by decide +kernel
theorem dX5_beside_91 : decode cX5_beside 91 = .ok (.ireturn, 1) := by decide +kernel
set_option maxRecDepth 20000 in
theorem ggX5_deepest_X4_has : GoodIn wsX5_deepest wsX4_has := goodIn_r _ [6, 7, 8, 9, 5, 10, 11, 116, 117, 118, 119, 120, 121, 122, 123, 124] (by decide +kernel) (by decide +kernel)
set_option maxRecDepth 20000 in
theorem gX5_deepest_X4_has : GoodIn wsX5_deepest (wsV RX5 135 RX4 yX4_has wsX4_has) := goodIn_app (goodIn_of _ (by decide +kernel)) ggX5_deepest_X4_has
set_option maxRecDepth 20000 in
theorem ggX5_deepest_X4_deepestOf : GoodIn wsX5_deepest wsX4_deepestOf := goodIn_r _ [15, 11, 16, 17, 18, 5, 19, 20, 21, 22, 23, 24, 25, 26, 27, 28, 29, 30, 31, 32, 33, 34, 35, 36, 37, 38, 39, 40, 41, 42, 43, 44, 45, 46, 47, 48, 49, 50, 51, 52, 53, 54, 55, 56, 57, 58, 59, 60, 61, 62, 63, 64, 65, 66, 67, 68, 69, 70, 71, 72, 73, 74, 75, 76, 77, 78, 79, 80, 81, 82, 83, 84, 85, 86, 87, 88, 89, 90, 91, 92, 93, 94, 95, 96, 97, 98, 99, 100, 101, 102, 103, 104, 105, 106, 107, 108, 116, 117, 118, 119, 120, 121, 122, 123, 124] (by decide +kernel) (by decide +kernel)
set_option maxRecDepth 20000 in
theorem gX5_deepest_X4_deepestOf : GoodIn wsX5_deepest (wsV RX5 192 RX4 yX4_deepestOf wsX4_deepestOf) := goodIn_app (goodIn_of _ (by decide +kernel)) ggX5_deepest_X4_deepestOf
theorem dX5_deepest_0 : decode cX5_deepest 0 = .ok (.aload_n 0, 1) := by decide +kernel
theorem dX5_deepest_1 : decode cX5_deepest 1 = .ok (.getfield 12, 3) := by decide +kernel
theorem dX5_deepest_4 : decode cX5_deepest 4 = .ok (.iload_n 1, 1) := by decide +kernel
theorem dX5_deepest_5 : decode cX5_deepest 5 = .ok (.invokevirtual 135, 3) := by decide +kernel
theorem dX5_deepest_8 : decode cX5_deepest 8 = .ok (.ifCond .eq 14, 3) := by decide +kernel
theorem dX5_deepest_11 : decode cX5_deepest 11 = .ok (.aload_n 0, 1) := by decide +kernel
theorem dX5_deepest_12 : decode cX5_deepest 12 = .ok (.getfield 12, 3) := by decide +kernel
theorem dX5_deepest_15 : decode cX5_deepest 15 = .ok (.iload_n 1, 1) := by decide +kernel
theorem dX5_deepest_16 : decode cX5_deepest 16 = .ok (.invokevirtual 192, 3) := by decide +kernel
theorem dX5_deepest_19 : decode cX5_deepest 19 = .ok (.goto 4, 3) := by decide +kernel
theorem dX5_deepest_22 : decode cX5_deepest 22 = .ok (.iconst (-1), 1) := by decide +kernel
theorem dX5_deepest_23 : decode cX5_deepest 23 = .ok (.ireturn, 1) := by decide +kernel
set_option maxRecDepth 20000 in
theorem ggX5_alike_X4_has : GoodIn wsX5_alike wsX4_has := goodIn_r _ [6, 7, 8, 9, 5, 10, 11, 109, 110, 111, 112, 113, 114, 115, 116, 117] (by decide +kernel) (by decide +kernel)
set_option maxRecDepth 20000 in
theorem gX5_alike_X4_has : GoodIn wsX5_alike (wsV RX5 135 RX4 yX4_has wsX4_has) := goodIn_app (goodIn_of _ (by decide +kernel)) ggX5_alike_X4_has
set_option maxRecDepth 20000 in
theorem ggX5_alike_X4_haveLikeRows : GoodIn wsX5_alike wsX4_haveLikeRows := goodIn_r _ [15, 11, 16, 17, 18, 5, 19, 20, 21, 22, 23, 24, 25, 26, 27, 28, 29, 30, 31, 32, 33, 34, 35, 36, 37, 38, 39, 40, 41, 42, 43, 44, 45, 46, 47, 48, 49, 50, 51, 52, 53, 54, 55, 56, 57, 58, 59, 60, 61, 62, 63, 64, 65, 66, 67, 68, 69, 70, 71, 72, 73, 74, 75, 76, 77, 78, 79, 80, 81, 82, 83, 84, 85, 86, 87, 88, 89, 90, 91, 92, 93, 94, 95, 96, 97, 98, 99, 100, 101, 109, 110, 111, 112, 113, 114, 115, 116, 117] (by decide +kernel) (by decide +kernel)
set_option maxRecDepth 20000 in
theorem gX5_alike_X4_haveLikeRows : GoodIn wsX5_alike (wsV RX5 195 RX4 yX4_haveLikeRows wsX4_haveLikeRows) := goodIn_app (goodIn_of _ (by decide +kernel)) ggX5_alike_X4_haveLikeRows
theorem dX5_alike_0 : decode cX5_alike 0 = .ok (.aload_n 0, 1) := by decide +kernel
theorem dX5_alike_1 : decode cX5_alike 1 = .ok (.getfield 12, 3) := by decide +kernel
theorem dX5_alike_4 : decode cX5_alike 4 = .ok (.iload_n 1, 1) := by decide +kernel
theorem dX5_alike_5 : decode cX5_alike 5 = .ok (.invokevirtual 135, 3) := by decide +kernel
theorem dX5_alike_8 : decode cX5_alike 8 = .ok (.ifCond .eq 14, 3) := by decide +kernel
theorem dX5_alike_11 : decode cX5_alike 11 = .ok (.aload_n 0, 1) := by decide +kernel
theorem dX5_alike_12 : decode cX5_alike 12 = .ok (.getfield 12, 3) := by decide +kernel
theorem dX5_alike_15 : decode cX5_alike 15 = .ok (.iload_n 2, 1) := by decide +kernel
theorem dX5_alike_16 : decode cX5_alike 16 = .ok (.invokevirtual 135, 3) := by decide +kernel
theorem dX5_alike_19 : decode cX5_alike 19 = .ok (.ifCond .ne 5, 3) := by decide +kernel
theorem dX5_alike_22 : decode cX5_alike 22 = .ok (.iconst (-1), 1) := by decide +kernel
theorem dX5_alike_23 : decode cX5_alike 23 = .ok (.ireturn, 1) := by decide +kernel
theorem dX5_alike_24 : decode cX5_alike 24 = .ok (.aload_n 0, 1) := by decide +kernel
theorem dX5_alike_25 : decode cX5_alike 25 = .ok (.getfield 12, 3) := by decide +kernel
theorem dX5_alike_28 : decode cX5_alike 28 = .ok (.iload_n 1, 1) := by decide +kernel
theorem dX5_alike_29 : decode cX5_alike 29 = .ok (.iload_n 2, 1) := by decide +kernel
theorem dX5_alike_30 : decode cX5_alike 30 = .ok (.invokevirtual 195, 3) := by decide +kernel
theorem dX5_alike_33 : decode cX5_alike 33 = .ok (.ifCond .eq 7, 3) := by decide +kernel
theorem dX5_alike_36 : decode cX5_alike 36 = .ok (.iconst 1, 1) := by decide +kernel
theorem dX5_alike_37 : decode cX5_alike 37 = .ok (.goto 4, 3) := by decide +kernel
theorem dX5_alike_40 : decode cX5_alike 40 = .ok (.iconst 0, 1) := by decide +kernel
theorem dX5_alike_41 : decode cX5_alike 41 = .ok (.ireturn, 1) := by decide +kernel
set_option maxRecDepth 20000 in
theorem ggX5_weight_X4_has : GoodIn wsX5_weight wsX4_has := goodIn_r _ [6, 7, 8, 9, 5, 10, 11, 19, 20, 21, 22, 23, 24, 25, 26, 27] (by decide +kernel) (by decide +kernel)
set_option maxRecDepth 20000 in
theorem gX5_weight_X4_has : GoodIn wsX5_weight (wsV RX5 135 RX4 yX4_has wsX4_has) := goodIn_app (goodIn_of _ (by decide +kernel)) ggX5_weight_X4_has
theorem dX5_weight_0 : decode cX5_weight 0 = .ok (.aload_n 0, 1) := by decide +kernel
theorem dX5_weight_1 : decode cX5_weight 1 = .ok (.getfield 12, 3) := by decide +kernel
theorem dX5_weight_4 : decode cX5_weight 4 = .ok (.iload_n 1, 1) := by decide +kernel
theorem dX5_weight_5 : decode cX5_weight 5 = .ok (.invokevirtual 135, 3) := by decide +kernel
theorem dX5_weight_8 : decode cX5_weight 8 = .ok (.ifCond .eq 15, 3) := by decide +kernel
theorem dX5_weight_11 : decode cX5_weight 11 = .ok (.aload_n 0, 1) := by decide +kernel
theorem dX5_weight_12 : decode cX5_weight 12 = .ok (.getfield 12, 3) := by decide +kernel
theorem dX5_weight_15 : decode cX5_weight 15 = .ok (.getfield 199, 3) := by decide +kernel
theorem dX5_weight_18 : decode cX5_weight 18 = .ok (.iload_n 1, 1) := by decide +kernel
theorem dX5_weight_19 : decode cX5_weight 19 = .ok (.iaload, 1) := by decide +kernel
theorem dX5_weight_20 : decode cX5_weight 20 = .ok (.goto 4, 3) := by decide +kernel
theorem dX5_weight_23 : decode cX5_weight 23 = .ok (.iconst (-1), 1) := by decide +kernel
theorem dX5_weight_24 : decode cX5_weight 24 = .ok (.ireturn, 1) := by decide +kernel
set_option maxRecDepth 20000 in
theorem ggX5_set_X4_has : GoodIn wsX5_set wsX4_has := goodIn_r _ [6, 7, 8, 9, 5, 10, 11, 19, 20, 21, 22, 23, 24, 25, 26, 27] (by decide +kernel) (by decide +kernel)
set_option maxRecDepth 20000 in
theorem gX5_set_X4_has : GoodIn wsX5_set (wsV RX5 135 RX4 yX4_has wsX4_has) := goodIn_app (goodIn_of _ (by decide +kernel)) ggX5_set_X4_has
theorem dX5_set_0 : decode cX5_set 0 = .ok (.aload_n 0, 1) := by decide +kernel
theorem dX5_set_1 : decode cX5_set 1 = .ok (.getfield 12, 3) := by decide +kernel
theorem dX5_set_4 : decode cX5_set 4 = .ok (.iload_n 1, 1) := by decide +kernel
theorem dX5_set_5 : decode cX5_set 5 = .ok (.invokevirtual 135, 3) := by decide +kernel
theorem dX5_set_8 : decode cX5_set 8 = .ok (.ifCond .eq 7, 3) := by decide +kernel
theorem dX5_set_11 : decode cX5_set 11 = .ok (.iload_n 2, 1) := by decide +kernel
theorem dX5_set_12 : decode cX5_set 12 = .ok (.ifCond .ge 5, 3) := by decide +kernel
theorem dX5_set_15 : decode cX5_set 15 = .ok (.iconst (-1), 1) := by decide +kernel
theorem dX5_set_16 : decode cX5_set 16 = .ok (.ireturn, 1) := by decide +kernel
theorem dX5_set_17 : decode cX5_set 17 = .ok (.aload_n 0, 1) := by decide +kernel
theorem dX5_set_18 : decode cX5_set 18 = .ok (.getfield 12, 3) := by decide +kernel
theorem dX5_set_21 : decode cX5_set 21 = .ok (.getfield 199, 3) := by decide +kernel
theorem dX5_set_24 : decode cX5_set 24 = .ok (.iload_n 1, 1) := by decide +kernel
theorem dX5_set_25 : decode cX5_set 25 = .ok (.iaload, 1) := by decide +kernel
theorem dX5_set_26 : decode cX5_set 26 = .ok (.istore_n 3, 1) := by decide +kernel
theorem dX5_set_27 : decode cX5_set 27 = .ok (.aload_n 0, 1) := by decide +kernel
theorem dX5_set_28 : decode cX5_set 28 = .ok (.getfield 12, 3) := by decide +kernel
theorem dX5_set_31 : decode cX5_set 31 = .ok (.getfield 199, 3) := by decide +kernel
theorem dX5_set_34 : decode cX5_set 34 = .ok (.iload_n 1, 1) := by decide +kernel
theorem dX5_set_35 : decode cX5_set 35 = .ok (.iload_n 2, 1) := by decide +kernel
theorem dX5_set_36 : decode cX5_set 36 = .ok (.iastore, 1) := by decide +kernel
theorem dX5_set_37 : decode cX5_set 37 = .ok (.iload_n 3, 1) := by decide +kernel
theorem dX5_set_38 : decode cX5_set 38 = .ok (.ireturn, 1) := by decide +kernel
set_option maxRecDepth 20000 in
theorem ggX5_sum_X4_has : GoodIn wsX5_sum wsX4_has := goodIn_r _ [7, 8, 9, 10, 6, 11, 12, 126, 127, 128, 129, 130, 131, 132, 133, 134] (by decide +kernel) (by decide +kernel)
set_option maxRecDepth 20000 in
theorem gX5_sum_X4_has : GoodIn wsX5_sum (wsV RX5 135 RX4 yX4_has wsX4_has) := goodIn_app (goodIn_of _ (by decide +kernel)) ggX5_sum_X4_has
set_option maxRecDepth 20000 in
theorem ggX5_sum_X5_within : GoodIn wsX5_sum wsX5_within := goodIn_r _ [16] (by decide +kernel) (by decide +kernel)
set_option maxRecDepth 20000 in
theorem gX5_sum_X5_within : GoodIn wsX5_sum (va_wsS RX5 41 yX5_within wsX5_within) := goodIn_app (goodIn_of _ (by decide +kernel)) ggX5_sum_X5_within
set_option maxRecDepth 20000 in
theorem ggX5_sum_X4_weightBelow : GoodIn wsX5_sum wsX4_weightBelow := goodIn_r _ [20, 21, 22, 23, 24, 25, 26, 27, 28, 6, 29, 12, 30, 31, 32, 33, 34, 35, 36, 37, 38, 39, 40, 41, 42, 43, 44, 45, 46, 47, 48, 49, 50, 51, 52, 53, 54, 55, 56, 57, 58, 59, 60, 61, 62, 63, 64, 65, 66, 67, 68, 69, 70, 71, 72, 73, 74, 75, 76, 77, 78, 79, 80, 81, 82, 83, 84, 85, 86, 87, 88, 89, 90, 91, 92, 93, 94, 95, 96, 97, 98, 99, 100, 101, 102, 103, 126, 127, 128, 129, 130, 131, 132, 133, 134] (by decide +kernel) (by decide +kernel)
set_option maxRecDepth 20000 in
theorem gX5_sum_X4_weightBelow : GoodIn wsX5_sum (wsV RX5 202 RX4 yX4_weightBelow wsX4_weightBelow) := goodIn_app (goodIn_of _ (by decide +kernel)) ggX5_sum_X4_weightBelow
set_option maxRecDepth 20000 in
theorem ggX5_sum_X4_weightAbove : GoodIn wsX5_sum wsX4_weightAbove := goodIn_r _ [107, 25, 108, 4, 5, 6, 7, 8, 9, 10, 11, 12, 109, 110, 111, 112, 30, 31, 32, 33, 34, 35, 36, 37, 38, 39, 40, 41, 42, 43, 44, 45, 46, 47, 48, 49, 50, 51, 52, 53, 54, 55, 56, 57, 58, 59, 60, 61, 62, 63, 64, 65, 66, 67, 68, 69, 70, 71, 72, 113, 82, 83, 84, 114, 101, 102, 103, 89, 81, 96, 97, 98, 99, 90, 91, 92, 93, 94, 95, 115, 116, 117, 118, 126, 127, 128, 129, 130, 131, 132, 133, 134] (by decide +kernel) (by decide +kernel)
set_option maxRecDepth 20000 in
theorem gX5_sum_X4_weightAbove : GoodIn wsX5_sum (wsV RX5 206 RX4 yX4_weightAbove wsX4_weightAbove) := goodIn_app (goodIn_of _ (by decide +kernel)) ggX5_sum_X4_weightAbove
theorem dX5_sum_0 : decode cX5_sum 0 = .ok (.aload_n 0, 1) := by decide +kernel
theorem dX5_sum_1 : decode cX5_sum 1 = .ok (.getfield 12, 3) := by decide +kernel
theorem dX5_sum_4 : decode cX5_sum 4 = .ok (.iload_n 1, 1) := by decide +kernel
theorem dX5_sum_5 : decode cX5_sum 5 = .ok (.invokevirtual 135, 3) := by decide +kernel
theorem dX5_sum_8 : decode cX5_sum 8 = .ok (.ifCond .eq 12, 3) := by decide +kernel
theorem dX5_sum_11 : decode cX5_sum 11 = .ok (.iload_n 2, 1) := by decide +kernel
theorem dX5_sum_12 : decode cX5_sum 12 = .ok (.iconst 0, 1) := by decide +kernel
theorem dX5_sum_13 : decode cX5_sum 13 = .ok (.iconst 1, 1) := by decide +kernel
theorem dX5_sum_14 : decode cX5_sum 14 = .ok (.invokestatic 41, 3) := by decide +kernel
theorem dX5_sum_17 : decode cX5_sum 17 = .ok (.ifCond .ne 5, 3) := by decide +kernel
theorem dX5_sum_20 : decode cX5_sum 20 = .ok (.iconst (-1), 1) := by decide +kernel
theorem dX5_sum_21 : decode cX5_sum 21 = .ok (.ireturn, 1) := by decide +kernel
theorem dX5_sum_22 : decode cX5_sum 22 = .ok (.iload_n 2, 1) := by decide +kernel
theorem dX5_sum_23 : decode cX5_sum 23 = .ok (.ifCond .ne 14, 3) := by decide +kernel
theorem dX5_sum_26 : decode cX5_sum 26 = .ok (.aload_n 0, 1) := by decide +kernel
theorem dX5_sum_27 : decode cX5_sum 27 = .ok (.getfield 12, 3) := by decide +kernel
theorem dX5_sum_30 : decode cX5_sum 30 = .ok (.iload_n 1, 1) := by decide +kernel
theorem dX5_sum_31 : decode cX5_sum 31 = .ok (.invokevirtual 202, 3) := by decide +kernel
theorem dX5_sum_34 : decode cX5_sum 34 = .ok (.goto 11, 3) := by decide +kernel
theorem dX5_sum_37 : decode cX5_sum 37 = .ok (.aload_n 0, 1) := by decide +kernel
theorem dX5_sum_38 : decode cX5_sum 38 = .ok (.getfield 12, 3) := by decide +kernel
theorem dX5_sum_41 : decode cX5_sum 41 = .ok (.iload_n 1, 1) := by decide +kernel
theorem dX5_sum_42 : decode cX5_sum 42 = .ok (.invokevirtual 206, 3) := by decide +kernel
theorem dX5_sum_45 : decode cX5_sum 45 = .ok (.lstore_n 3, 1) := by decide +kernel
theorem dX5_sum_46 : decode cX5_sum 46 = .ok (.lload_n 3, 1) := by decide +kernel
theorem dX5_sum_47 : decode cX5_sum 47 = .ok (.ldc2_w 209, 3) := by decide +kernel
theorem dX5_sum_50 : decode cX5_sum 50 = .ok (.lcmp, 1) := by decide +kernel
theorem dX5_sum_51 : decode cX5_sum 51 = .ok (.ifCond .le 8, 3) := by decide +kernel
theorem dX5_sum_54 : decode cX5_sum 54 = .ok (.bipush (-5), 2) := by decide +kernel
theorem dX5_sum_56 : decode cX5_sum 56 = .ok (.goto 5, 3) := by decide +kernel
theorem dX5_sum_59 : decode cX5_sum 59 = .ok (.lload_n 3, 1) := by decide +kernel
theorem dX5_sum_60 : decode cX5_sum 60 = .ok (.l2i, 1) := by decide +kernel
theorem dX5_sum_61 : decode cX5_sum 61 = .ok (.ireturn, 1) := by decide +kernel
set_option maxRecDepth 20000 in
theorem ggX5_heaviest_X4_has : GoodIn wsX5_heaviest wsX4_has := goodIn_r _ [6, 7, 8, 9, 5, 10, 11, 106, 107, 108, 109, 110, 111, 112, 113, 114] (by decide +kernel) (by decide +kernel)
set_option maxRecDepth 20000 in
theorem gX5_heaviest_X4_has : GoodIn wsX5_heaviest (wsV RX5 135 RX4 yX4_has wsX4_has) := goodIn_app (goodIn_of _ (by decide +kernel)) ggX5_heaviest_X4_has
set_option maxRecDepth 20000 in
theorem ggX5_heaviest_X4_heaviestOf : GoodIn wsX5_heaviest wsX4_heaviestOf := goodIn_r _ [15, 16, 17, 18, 19, 20, 21, 22, 23, 5, 24, 11, 25, 26, 27, 28, 29, 30, 31, 32, 33, 34, 35, 36, 37, 38, 39, 40, 41, 42, 43, 44, 45, 46, 47, 48, 49, 50, 51, 52, 53, 54, 55, 56, 57, 58, 59, 60, 61, 62, 63, 64, 65, 66, 67, 68, 69, 70, 71, 72, 73, 74, 75, 76, 77, 78, 79, 80, 81, 82, 83, 84, 85, 86, 87, 88, 89, 90, 91, 92, 93, 94, 95, 96, 97, 98, 106, 107, 108, 109, 110, 111, 112, 113, 114] (by decide +kernel) (by decide +kernel)
set_option maxRecDepth 20000 in
theorem gX5_heaviest_X4_heaviestOf : GoodIn wsX5_heaviest (wsV RX5 211 RX4 yX4_heaviestOf wsX4_heaviestOf) := goodIn_app (goodIn_of _ (by decide +kernel)) ggX5_heaviest_X4_heaviestOf
theorem dX5_heaviest_0 : decode cX5_heaviest 0 = .ok (.aload_n 0, 1) := by decide +kernel
theorem dX5_heaviest_1 : decode cX5_heaviest 1 = .ok (.getfield 12, 3) := by decide +kernel
theorem dX5_heaviest_4 : decode cX5_heaviest 4 = .ok (.iload_n 1, 1) := by decide +kernel
theorem dX5_heaviest_5 : decode cX5_heaviest 5 = .ok (.invokevirtual 135, 3) := by decide +kernel
theorem dX5_heaviest_8 : decode cX5_heaviest 8 = .ok (.ifCond .eq 14, 3) := by decide +kernel
theorem dX5_heaviest_11 : decode cX5_heaviest 11 = .ok (.aload_n 0, 1) := by decide +kernel
theorem dX5_heaviest_12 : decode cX5_heaviest 12 = .ok (.getfield 12, 3) := by decide +kernel
theorem dX5_heaviest_15 : decode cX5_heaviest 15 = .ok (.iload_n 1, 1) := by decide +kernel
theorem dX5_heaviest_16 : decode cX5_heaviest 16 = .ok (.invokevirtual 211, 3) := by decide +kernel
theorem dX5_heaviest_19 : decode cX5_heaviest 19 = .ok (.goto 4, 3) := by decide +kernel
theorem dX5_heaviest_22 : decode cX5_heaviest 22 = .ok (.iconst (-1), 1) := by decide +kernel
theorem dX5_heaviest_23 : decode cX5_heaviest 23 = .ok (.ireturn, 1) := by decide +kernel
set_option maxRecDepth 20000 in
theorem ggX5_plant_X4_nodes : GoodIn wsX5_plant wsX4_nodes := goodIn_r _ [6, 7, 86, 87, 88, 89, 90, 91, 92, 93, 94] (by decide +kernel) (by decide +kernel)
set_option maxRecDepth 20000 in
theorem gX5_plant_X4_nodes : GoodIn wsX5_plant (wsV RX5 66 RX4 yX4_nodes wsX4_nodes) := goodIn_app (goodIn_of _ (by decide +kernel)) ggX5_plant_X4_nodes
set_option maxRecDepth 20000 in
theorem ggX5_plant_X4_addLeafAt : GoodIn wsX5_plant wsX4_addLeafAt := goodIn_r _ [11, 7, 12, 13, 14, 15, 16, 17, 18, 19, 20, 21, 22, 23, 24, 25, 26, 27, 28, 29, 30, 31, 32, 33, 34, 35, 36, 37, 38, 5, 39, 40, 41, 42, 43, 44, 3, 4, 6, 45, 46, 47, 48, 49, 50, 51, 52, 53, 54, 55, 56, 57, 58, 59, 60, 61, 62, 63, 64, 65, 66, 67, 68, 69, 70, 71, 72, 73, 74, 75, 76, 77, 78, 86, 87, 88, 89, 90, 91, 92, 93, 94] (by decide +kernel) (by decide +kernel)
set_option maxRecDepth 20000 in
theorem gX5_plant_X4_addLeafAt : GoodIn wsX5_plant (wsV RX5 214 RX4 yX4_addLeafAt wsX4_addLeafAt) := goodIn_app (goodIn_of _ (by decide +kernel)) ggX5_plant_X4_addLeafAt
theorem dX5_plant_0 : decode cX5_plant 0 = .ok (.iload_n 1, 1) := by decide +kernel
theorem dX5_plant_1 : decode cX5_plant 1 = .ok (.ifCond .ge 5, 3) := by decide +kernel
theorem dX5_plant_4 : decode cX5_plant 4 = .ok (.iconst (-1), 1) := by decide +kernel
theorem dX5_plant_5 : decode cX5_plant 5 = .ok (.ireturn, 1) := by decide +kernel
theorem dX5_plant_6 : decode cX5_plant 6 = .ok (.aload_n 0, 1) := by decide +kernel
theorem dX5_plant_7 : decode cX5_plant 7 = .ok (.getfield 12, 3) := by decide +kernel
theorem dX5_plant_10 : decode cX5_plant 10 = .ok (.invokevirtual 66, 3) := by decide +kernel
theorem dX5_plant_13 : decode cX5_plant 13 = .ok (.ifCond .le 6, 3) := by decide +kernel
theorem dX5_plant_16 : decode cX5_plant 16 = .ok (.bipush (-2), 2) := by decide +kernel
theorem dX5_plant_18 : decode cX5_plant 18 = .ok (.ireturn, 1) := by decide +kernel
theorem dX5_plant_19 : decode cX5_plant 19 = .ok (.aload_n 0, 1) := by decide +kernel
theorem dX5_plant_20 : decode cX5_plant 20 = .ok (.getfield 12, 3) := by decide +kernel
theorem dX5_plant_23 : decode cX5_plant 23 = .ok (.iconst 0, 1) := by decide +kernel
theorem dX5_plant_24 : decode cX5_plant 24 = .ok (.iload_n 1, 1) := by decide +kernel
theorem dX5_plant_25 : decode cX5_plant 25 = .ok (.invokevirtual 214, 3) := by decide +kernel
theorem dX5_plant_28 : decode cX5_plant 28 = .ok (.ireturn, 1) := by decide +kernel
set_option maxRecDepth 20000 in
theorem ggX5_leaf_X4_has : GoodIn wsX5_leaf wsX4_has := goodIn_r _ [6, 7, 8, 9, 5, 10, 11, 155, 156, 157, 158, 159, 160, 161, 162, 163] (by decide +kernel) (by decide +kernel)
set_option maxRecDepth 20000 in
theorem gX5_leaf_X4_has : GoodIn wsX5_leaf (wsV RX5 135 RX4 yX4_has wsX4_has) := goodIn_app (goodIn_of _ (by decide +kernel)) ggX5_leaf_X4_has
set_option maxRecDepth 20000 in
theorem ggX5_leaf_X4_childrenOf : GoodIn wsX5_leaf wsX4_childrenOf := goodIn_r _ [15, 11, 16, 17, 18, 5, 19, 20, 21, 22, 23, 24, 25, 26, 27, 28, 29, 30, 31, 32, 33, 34, 35, 36, 37, 38, 39, 40, 41, 42, 43, 44, 45, 46, 47, 48, 49, 50, 51, 52, 53, 54, 55, 56, 57, 58, 59, 60, 61, 62, 63, 64, 65, 66, 67, 68, 69, 70, 71, 72, 73, 74, 75, 76, 77, 78, 79, 80, 81, 82, 83, 84, 85, 86, 87, 88, 89, 90, 91, 92, 93, 94, 155, 156, 157, 158, 159, 160, 161, 162, 163] (by decide +kernel) (by decide +kernel)
set_option maxRecDepth 20000 in
theorem gX5_leaf_X4_childrenOf : GoodIn wsX5_leaf (wsV RX5 162 RX4 yX4_childrenOf wsX4_childrenOf) := goodIn_app (goodIn_of _ (by decide +kernel)) ggX5_leaf_X4_childrenOf
set_option maxRecDepth 20000 in
theorem ggX5_leaf_X5_within : GoodIn wsX5_leaf wsX5_within := goodIn_r _ [98] (by decide +kernel) (by decide +kernel)
set_option maxRecDepth 20000 in
theorem gX5_leaf_X5_within : GoodIn wsX5_leaf (va_wsS RX5 41 yX5_within wsX5_within) := goodIn_app (goodIn_of _ (by decide +kernel)) ggX5_leaf_X5_within
set_option maxRecDepth 20000 in
theorem ggX5_leaf_X4_nodes : GoodIn wsX5_leaf wsX4_nodes := goodIn_r _ [10, 11, 155, 156, 157, 158, 159, 160, 161, 162, 163] (by decide +kernel) (by decide +kernel)
set_option maxRecDepth 20000 in
theorem gX5_leaf_X4_nodes : GoodIn wsX5_leaf (wsV RX5 66 RX4 yX4_nodes wsX4_nodes) := goodIn_app (goodIn_of _ (by decide +kernel)) ggX5_leaf_X4_nodes
set_option maxRecDepth 20000 in
theorem ggX5_leaf_X4_placeForChild : GoodIn wsX5_leaf wsX4_placeForChild := goodIn_r _ [103, 11, 16, 17, 18, 5, 19, 20, 21, 22, 23, 24, 25, 26, 27, 28, 29, 30, 31, 32, 33, 34, 35, 36, 37, 38, 39, 40, 41, 42, 43, 44, 45, 46, 47, 48, 49, 50, 51, 52, 53, 54, 55, 56, 57, 58, 90, 68, 69, 70, 104, 64, 65, 66, 105, 72, 73, 74, 75, 67, 76, 77, 78, 79, 80, 81, 82, 83, 84, 85, 155, 156, 157, 158, 159, 160, 161, 162, 163] (by decide +kernel) (by decide +kernel)
set_option maxRecDepth 20000 in
theorem gX5_leaf_X4_placeForChild : GoodIn wsX5_leaf (wsV RX5 217 RX4 yX4_placeForChild wsX4_placeForChild) := goodIn_app (goodIn_of _ (by decide +kernel)) ggX5_leaf_X4_placeForChild
set_option maxRecDepth 20000 in
theorem ggX5_leaf_X4_addLeafAt : GoodIn wsX5_leaf wsX4_addLeafAt := goodIn_r _ [109, 11, 110, 111, 112, 113, 23, 114, 67, 68, 69, 70, 29, 32, 33, 34, 35, 36, 37, 41, 42, 43, 44, 45, 46, 47, 115, 116, 117, 5, 118, 119, 120, 121, 122, 7, 8, 9, 10, 123, 124, 125, 126, 30, 31, 127, 128, 129, 130, 131, 132, 133, 134, 135, 136, 137, 138, 139, 140, 141, 142, 143, 144, 145, 146, 147, 75, 80, 81, 82, 83, 84, 85, 155, 156, 157, 158, 159, 160, 161, 162, 163] (by decide +kernel) (by decide +kernel)
set_option maxRecDepth 20000 in
theorem gX5_leaf_X4_addLeafAt : GoodIn wsX5_leaf (wsV RX5 214 RX4 yX4_addLeafAt wsX4_addLeafAt) := goodIn_app (goodIn_of _ (by decide +kernel)) ggX5_leaf_X4_addLeafAt
theorem dX5_leaf_0 : decode cX5_leaf 0 = .ok (.aload_n 0, 1) := by decide +kernel
theorem dX5_leaf_1 : decode cX5_leaf 1 = .ok (.getfield 12, 3) := by decide +kernel
theorem dX5_leaf_4 : decode cX5_leaf 4 = .ok (.iload_n 1, 1) := by decide +kernel
theorem dX5_leaf_5 : decode cX5_leaf 5 = .ok (.invokevirtual 135, 3) := by decide +kernel
theorem dX5_leaf_8 : decode cX5_leaf 8 = .ok (.ifCond .eq 23, 3) := by decide +kernel
theorem dX5_leaf_11 : decode cX5_leaf 11 = .ok (.iload_n 3, 1) := by decide +kernel
theorem dX5_leaf_12 : decode cX5_leaf 12 = .ok (.ifCond .lt 19, 3) := by decide +kernel
theorem dX5_leaf_15 : decode cX5_leaf 15 = .ok (.iload_n 2, 1) := by decide +kernel
theorem dX5_leaf_16 : decode cX5_leaf 16 = .ok (.iconst 0, 1) := by decide +kernel
theorem dX5_leaf_17 : decode cX5_leaf 17 = .ok (.aload_n 0, 1) := by decide +kernel
theorem dX5_leaf_18 : decode cX5_leaf 18 = .ok (.getfield 12, 3) := by decide +kernel
theorem dX5_leaf_21 : decode cX5_leaf 21 = .ok (.iload_n 1, 1) := by decide +kernel
theorem dX5_leaf_22 : decode cX5_leaf 22 = .ok (.invokevirtual 162, 3) := by decide +kernel
theorem dX5_leaf_25 : decode cX5_leaf 25 = .ok (.invokestatic 41, 3) := by decide +kernel
theorem dX5_leaf_28 : decode cX5_leaf 28 = .ok (.ifCond .ne 5, 3) := by decide +kernel
theorem dX5_leaf_31 : decode cX5_leaf 31 = .ok (.iconst (-1), 1) := by decide +kernel
theorem dX5_leaf_32 : decode cX5_leaf 32 = .ok (.ireturn, 1) := by decide +kernel
theorem dX5_leaf_33 : decode cX5_leaf 33 = .ok (.aload_n 0, 1) := by decide +kernel
theorem dX5_leaf_34 : decode cX5_leaf 34 = .ok (.getfield 12, 3) := by decide +kernel
theorem dX5_leaf_37 : decode cX5_leaf 37 = .ok (.invokevirtual 66, 3) := by decide +kernel
theorem dX5_leaf_40 : decode cX5_leaf 40 = .ok (.bipush 64, 2) := by decide +kernel
theorem dX5_leaf_42 : decode cX5_leaf 42 = .ok (.if_icmp .lt 6, 3) := by decide +kernel
theorem dX5_leaf_45 : decode cX5_leaf 45 = .ok (.bipush (-3), 2) := by decide +kernel
theorem dX5_leaf_47 : decode cX5_leaf 47 = .ok (.ireturn, 1) := by decide +kernel
theorem dX5_leaf_48 : decode cX5_leaf 48 = .ok (.aload_n 0, 1) := by decide +kernel
theorem dX5_leaf_49 : decode cX5_leaf 49 = .ok (.getfield 12, 3) := by decide +kernel
theorem dX5_leaf_52 : decode cX5_leaf 52 = .ok (.aload_n 0, 1) := by decide +kernel
theorem dX5_leaf_53 : decode cX5_leaf 53 = .ok (.getfield 12, 3) := by decide +kernel
theorem dX5_leaf_56 : decode cX5_leaf 56 = .ok (.iload_n 1, 1) := by decide +kernel
theorem dX5_leaf_57 : decode cX5_leaf 57 = .ok (.iload_n 2, 1) := by decide +kernel
theorem dX5_leaf_58 : decode cX5_leaf 58 = .ok (.invokevirtual 217, 3) := by decide +kernel
theorem dX5_leaf_61 : decode cX5_leaf 61 = .ok (.iload_n 3, 1) := by decide +kernel
theorem dX5_leaf_62 : decode cX5_leaf 62 = .ok (.invokevirtual 214, 3) := by decide +kernel
theorem dX5_leaf_65 : decode cX5_leaf 65 = .ok (.ireturn, 1) := by decide +kernel
set_option maxRecDepth 20000 in
theorem ggX5_prune_X4_has : GoodIn wsX5_prune wsX4_has := goodIn_r _ [6, 7, 8, 9, 5, 10, 11, 135, 136, 137, 138, 139, 140, 141, 142, 143] (by decide +kernel) (by decide +kernel)
set_option maxRecDepth 20000 in
theorem gX5_prune_X4_has : GoodIn wsX5_prune (wsV RX5 135 RX4 yX4_has wsX4_has) := goodIn_app (goodIn_of _ (by decide +kernel)) ggX5_prune_X4_has
set_option maxRecDepth 20000 in
theorem ggX5_prune_X4_firstChildOf : GoodIn wsX5_prune wsX4_firstChildOf := goodIn_r _ [15, 11, 16, 17, 18, 5, 19, 20, 21, 22, 23, 24, 25, 26, 27, 28, 29, 30, 31, 32, 33, 34, 35, 36, 37, 38, 39, 40, 41, 42, 43, 44, 45, 46, 47, 48, 49, 50, 51, 52, 53, 54, 55, 56, 57, 58, 59, 60, 61, 62, 135, 136, 137, 138, 139, 140, 141, 142, 143] (by decide +kernel) (by decide +kernel)
set_option maxRecDepth 20000 in
theorem gX5_prune_X4_firstChildOf : GoodIn wsX5_prune (wsV RX5 150 RX4 yX4_firstChildOf wsX4_firstChildOf) := goodIn_app (goodIn_of _ (by decide +kernel)) ggX5_prune_X4_firstChildOf
set_option maxRecDepth 20000 in
theorem ggX5_prune_X4_removeSubtree : GoodIn wsX5_prune wsX4_removeSubtree := goodIn_r _ [66, 11, 67, 68, 69, 5, 70, 16, 17, 18, 19, 20, 21, 22, 23, 24, 25, 26, 27, 28, 29, 30, 31, 32, 33, 34, 35, 36, 37, 38, 39, 40, 41, 42, 43, 44, 45, 46, 47, 48, 49, 50, 51, 52, 53, 54, 55, 56, 57, 58, 71, 72, 73, 74, 75, 60, 61, 62, 76, 77, 78, 79, 80, 81, 82, 83, 84, 85, 86, 87, 88, 89, 90, 91, 92, 93, 94, 95, 96, 97, 98, 99, 100, 101, 102, 103, 104, 105, 106, 107, 7, 8, 9, 10, 108, 109, 110, 111, 112, 113, 114, 115, 116, 117, 118, 119, 120, 121, 122, 123, 124, 125, 126, 135, 136, 137, 138, 139, 140, 141, 142, 143] (by decide +kernel) (by decide +kernel)
set_option maxRecDepth 20000 in
theorem gX5_prune_X4_removeSubtree : GoodIn wsX5_prune (wsV RX5 220 RX4 yX4_removeSubtree wsX4_removeSubtree) := goodIn_app (goodIn_of _ (by decide +kernel)) ggX5_prune_X4_removeSubtree
set_option maxRecDepth 20000 in
theorem ggX5_prune_X4_nodes : GoodIn wsX5_prune wsX4_nodes := goodIn_r _ [10, 11, 135, 136, 137, 138, 139, 140, 141, 142, 143] (by decide +kernel) (by decide +kernel)
set_option maxRecDepth 20000 in
theorem gX5_prune_X4_nodes : GoodIn wsX5_prune (wsV RX5 66 RX4 yX4_nodes wsX4_nodes) := goodIn_app (goodIn_of _ (by decide +kernel)) ggX5_prune_X4_nodes
theorem dX5_prune_0 : decode cX5_prune 0 = .ok (.aload_n 0, 1) := by decide +kernel
theorem dX5_prune_1 : decode cX5_prune 1 = .ok (.getfield 12, 3) := by decide +kernel
theorem dX5_prune_4 : decode cX5_prune 4 = .ok (.iload_n 1, 1) := by decide +kernel
theorem dX5_prune_5 : decode cX5_prune 5 = .ok (.invokevirtual 135, 3) := by decide +kernel
theorem dX5_prune_8 : decode cX5_prune 8 = .ok (.ifCond .ne 5, 3) := by decide +kernel
theorem dX5_prune_11 : decode cX5_prune 11 = .ok (.iconst (-1), 1) := by decide +kernel
theorem dX5_prune_12 : decode cX5_prune 12 = .ok (.ireturn, 1) := by decide +kernel
theorem dX5_prune_13 : decode cX5_prune 13 = .ok (.aload_n 0, 1) := by decide +kernel
theorem dX5_prune_14 : decode cX5_prune 14 = .ok (.getfield 12, 3) := by decide +kernel
theorem dX5_prune_17 : decode cX5_prune 17 = .ok (.iload_n 1, 1) := by decide +kernel
theorem dX5_prune_18 : decode cX5_prune 18 = .ok (.invokevirtual 150, 3) := by decide +kernel
theorem dX5_prune_21 : decode cX5_prune 21 = .ok (.bipush (-4), 2) := by decide +kernel
theorem dX5_prune_23 : decode cX5_prune 23 = .ok (.if_icmp .eq 6, 3) := by decide +kernel
theorem dX5_prune_26 : decode cX5_prune 26 = .ok (.bipush (-2), 2) := by decide +kernel
theorem dX5_prune_28 : decode cX5_prune 28 = .ok (.ireturn, 1) := by decide +kernel
theorem dX5_prune_29 : decode cX5_prune 29 = .ok (.aload_n 0, 1) := by decide +kernel
theorem dX5_prune_30 : decode cX5_prune 30 = .ok (.getfield 12, 3) := by decide +kernel
theorem dX5_prune_33 : decode cX5_prune 33 = .ok (.iload_n 1, 1) := by decide +kernel
theorem dX5_prune_34 : decode cX5_prune 34 = .ok (.invokevirtual 220, 3) := by decide +kernel
theorem dX5_prune_37 : decode cX5_prune 37 = .ok (.aload_n 0, 1) := by decide +kernel
theorem dX5_prune_38 : decode cX5_prune 38 = .ok (.getfield 12, 3) := by decide +kernel
theorem dX5_prune_41 : decode cX5_prune 41 = .ok (.invokevirtual 66, 3) := by decide +kernel
theorem dX5_prune_44 : decode cX5_prune 44 = .ok (.ireturn, 1) := by decide +kernel
set_option maxRecDepth 20000 in
theorem ggX5_fell_X4_has : GoodIn wsX5_fell wsX4_has := goodIn_r _ [6, 7, 8, 9, 5, 10, 11, 130, 131, 132, 133, 134, 135, 136, 137, 138] (by decide +kernel) (by decide +kernel)
set_option maxRecDepth 20000 in
theorem gX5_fell_X4_has : GoodIn wsX5_fell (wsV RX5 135 RX4 yX4_has wsX4_has) := goodIn_app (goodIn_of _ (by decide +kernel)) ggX5_fell_X4_has
set_option maxRecDepth 20000 in
theorem ggX5_fell_X4_nodesOf : GoodIn wsX5_fell wsX4_nodesOf := goodIn_r _ [15, 11, 16, 17, 18, 5, 19, 20, 21, 22, 23, 24, 25, 26, 27, 28, 29, 30, 31, 32, 33, 34, 35, 36, 37, 38, 39, 40, 41, 42, 43, 44, 45, 46, 47, 48, 49, 50, 51, 52, 53, 54, 55, 56, 57, 58, 59, 60, 61, 62, 63, 64, 65, 66, 67, 68, 69, 70, 71, 72, 73, 74, 75, 76, 77, 78, 79, 80, 81, 82, 83, 84, 85, 86, 87, 88, 89, 130, 131, 132, 133, 134, 135, 136, 137, 138] (by decide +kernel) (by decide +kernel)
set_option maxRecDepth 20000 in
theorem gX5_fell_X4_nodesOf : GoodIn wsX5_fell (wsV RX5 165 RX4 yX4_nodesOf wsX4_nodesOf) := goodIn_app (goodIn_of _ (by decide +kernel)) ggX5_fell_X4_nodesOf
set_option maxRecDepth 20000 in
theorem ggX5_fell_X4_removeSubtree : GoodIn wsX5_fell wsX4_removeSubtree := goodIn_r _ [93, 11, 94, 13, 14, 5, 15, 16, 17, 18, 19, 20, 21, 22, 23, 24, 25, 26, 27, 28, 29, 30, 31, 32, 33, 34, 35, 36, 37, 38, 39, 40, 41, 42, 43, 44, 45, 46, 47, 48, 49, 50, 51, 52, 53, 54, 55, 56, 57, 58, 59, 60, 61, 62, 63, 64, 65, 66, 67, 68, 69, 70, 71, 72, 73, 74, 75, 76, 77, 78, 79, 80, 81, 82, 83, 84, 85, 86, 87, 88, 89, 95, 96, 97, 98, 99, 100, 101, 102, 103, 7, 8, 9, 10, 104, 105, 106, 107, 108, 109, 110, 111, 112, 113, 114, 115, 116, 117, 118, 119, 120, 121, 122, 130, 131, 132, 133, 134, 135, 136, 137, 138] (by decide +kernel) (by decide +kernel)
set_option maxRecDepth 20000 in
theorem gX5_fell_X4_removeSubtree : GoodIn wsX5_fell (wsV RX5 220 RX4 yX4_removeSubtree wsX4_removeSubtree) := goodIn_app (goodIn_of _ (by decide +kernel)) ggX5_fell_X4_removeSubtree
theorem dX5_fell_0 : decode cX5_fell 0 = .ok (.aload_n 0, 1) := by decide +kernel
theorem dX5_fell_1 : decode cX5_fell 1 = .ok (.getfield 12, 3) := by decide +kernel
theorem dX5_fell_4 : decode cX5_fell 4 = .ok (.iload_n 1, 1) := by decide +kernel
theorem dX5_fell_5 : decode cX5_fell 5 = .ok (.invokevirtual 135, 3) := by decide +kernel
theorem dX5_fell_8 : decode cX5_fell 8 = .ok (.ifCond .ne 5, 3) := by decide +kernel
theorem dX5_fell_11 : decode cX5_fell 11 = .ok (.iconst (-1), 1) := by decide +kernel
theorem dX5_fell_12 : decode cX5_fell 12 = .ok (.ireturn, 1) := by decide +kernel
theorem dX5_fell_13 : decode cX5_fell 13 = .ok (.aload_n 0, 1) := by decide +kernel
theorem dX5_fell_14 : decode cX5_fell 14 = .ok (.getfield 12, 3) := by decide +kernel
theorem dX5_fell_17 : decode cX5_fell 17 = .ok (.iload_n 1, 1) := by decide +kernel
theorem dX5_fell_18 : decode cX5_fell 18 = .ok (.invokevirtual 165, 3) := by decide +kernel
theorem dX5_fell_21 : decode cX5_fell 21 = .ok (.istore_n 2, 1) := by decide +kernel
theorem dX5_fell_22 : decode cX5_fell 22 = .ok (.aload_n 0, 1) := by decide +kernel
theorem dX5_fell_23 : decode cX5_fell 23 = .ok (.getfield 12, 3) := by decide +kernel
theorem dX5_fell_26 : decode cX5_fell 26 = .ok (.iload_n 1, 1) := by decide +kernel
theorem dX5_fell_27 : decode cX5_fell 27 = .ok (.invokevirtual 220, 3) := by decide +kernel
theorem dX5_fell_30 : decode cX5_fell 30 = .ok (.iload_n 2, 1) := by decide +kernel
theorem dX5_fell_31 : decode cX5_fell 31 = .ok (.ireturn, 1) := by decide +kernel
set_option maxRecDepth 20000 in
theorem ggX5_wrap_X4_has : GoodIn wsX5_wrap wsX4_has := goodIn_r _ [6, 7, 8, 9, 5, 10, 11, 155, 156, 157, 158, 159, 160, 161, 162, 163] (by decide +kernel) (by decide +kernel)
set_option maxRecDepth 20000 in
theorem gX5_wrap_X4_has : GoodIn wsX5_wrap (wsV RX5 135 RX4 yX4_has wsX4_has) := goodIn_app (goodIn_of _ (by decide +kernel)) ggX5_wrap_X4_has
set_option maxRecDepth 20000 in
theorem ggX5_wrap_X4_childrenOf : GoodIn wsX5_wrap wsX4_childrenOf := goodIn_r _ [15, 11, 16, 17, 18, 5, 19, 20, 21, 22, 23, 24, 25, 26, 27, 28, 29, 30, 31, 32, 33, 34, 35, 36, 37, 38, 39, 40, 41, 42, 43, 44, 45, 46, 47, 48, 49, 50, 51, 52, 53, 54, 55, 56, 57, 58, 59, 60, 61, 62, 63, 64, 65, 66, 67, 68, 69, 70, 71, 72, 73, 74, 75, 76, 77, 78, 79, 80, 81, 82, 83, 84, 85, 86, 87, 88, 89, 90, 91, 92, 93, 94, 155, 156, 157, 158, 159, 160, 161, 162, 163] (by decide +kernel) (by decide +kernel)
set_option maxRecDepth 20000 in
theorem gX5_wrap_X4_childrenOf : GoodIn wsX5_wrap (wsV RX5 162 RX4 yX4_childrenOf wsX4_childrenOf) := goodIn_app (goodIn_of _ (by decide +kernel)) ggX5_wrap_X4_childrenOf
set_option maxRecDepth 20000 in
theorem ggX5_wrap_X5_within : GoodIn wsX5_wrap wsX5_within := goodIn_r _ [98] (by decide +kernel) (by decide +kernel)
set_option maxRecDepth 20000 in
theorem gX5_wrap_X5_within : GoodIn wsX5_wrap (va_wsS RX5 41 yX5_within wsX5_within) := goodIn_app (goodIn_of _ (by decide +kernel)) ggX5_wrap_X5_within
set_option maxRecDepth 20000 in
theorem ggX5_wrap_X4_nodes : GoodIn wsX5_wrap wsX4_nodes := goodIn_r _ [10, 11, 155, 156, 157, 158, 159, 160, 161, 162, 163] (by decide +kernel) (by decide +kernel)
set_option maxRecDepth 20000 in
theorem gX5_wrap_X4_nodes : GoodIn wsX5_wrap (wsV RX5 66 RX4 yX4_nodes wsX4_nodes) := goodIn_app (goodIn_of _ (by decide +kernel)) ggX5_wrap_X4_nodes
set_option maxRecDepth 20000 in
theorem ggX5_wrap_X4_placeForChild : GoodIn wsX5_wrap wsX4_placeForChild := goodIn_r _ [103, 11, 16, 17, 18, 5, 19, 20, 21, 22, 23, 24, 25, 26, 27, 28, 29, 30, 31, 32, 33, 34, 35, 36, 37, 38, 39, 40, 41, 42, 43, 44, 45, 46, 47, 48, 49, 50, 51, 52, 53, 54, 55, 56, 57, 58, 90, 68, 69, 70, 104, 64, 65, 66, 105, 72, 73, 74, 75, 67, 76, 77, 78, 79, 80, 81, 82, 83, 84, 85, 155, 156, 157, 158, 159, 160, 161, 162, 163] (by decide +kernel) (by decide +kernel)
set_option maxRecDepth 20000 in
theorem gX5_wrap_X4_placeForChild : GoodIn wsX5_wrap (wsV RX5 217 RX4 yX4_placeForChild wsX4_placeForChild) := goodIn_app (goodIn_of _ (by decide +kernel)) ggX5_wrap_X4_placeForChild
set_option maxRecDepth 20000 in
theorem ggX5_wrap_X4_addAbout : GoodIn wsX5_wrap wsX4_addAbout := goodIn_r _ [109, 11, 110, 111, 112, 113, 23, 114, 67, 68, 69, 70, 29, 32, 33, 34, 35, 36, 37, 41, 42, 43, 44, 45, 46, 47, 115, 116, 117, 5, 118, 119, 120, 121, 122, 7, 8, 9, 10, 123, 124, 125, 126, 30, 31, 127, 128, 129, 130, 131, 132, 133, 134, 135, 136, 137, 138, 139, 140, 141, 142, 143, 144, 145, 146, 147, 75, 80, 81, 82, 83, 84, 85, 155, 156, 157, 158, 159, 160, 161, 162, 163] (by decide +kernel) (by decide +kernel)
set_option maxRecDepth 20000 in
theorem gX5_wrap_X4_addAbout : GoodIn wsX5_wrap (wsV RX5 224 RX4 yX4_addAbout wsX4_addAbout) := goodIn_app (goodIn_of _ (by decide +kernel)) ggX5_wrap_X4_addAbout
theorem dX5_wrap_0 : decode cX5_wrap 0 = .ok (.aload_n 0, 1) := by decide +kernel
theorem dX5_wrap_1 : decode cX5_wrap 1 = .ok (.getfield 12, 3) := by decide +kernel
theorem dX5_wrap_4 : decode cX5_wrap 4 = .ok (.iload_n 1, 1) := by decide +kernel
theorem dX5_wrap_5 : decode cX5_wrap 5 = .ok (.invokevirtual 135, 3) := by decide +kernel
theorem dX5_wrap_8 : decode cX5_wrap 8 = .ok (.ifCond .eq 8, 3) := by decide +kernel
theorem dX5_wrap_11 : decode cX5_wrap 11 = .ok (.iload 4, 2) := by decide +kernel
theorem dX5_wrap_13 : decode cX5_wrap 13 = .ok (.ifCond .ge 5, 3) := by decide +kernel
theorem dX5_wrap_16 : decode cX5_wrap 16 = .ok (.iconst (-1), 1) := by decide +kernel
theorem dX5_wrap_17 : decode cX5_wrap 17 = .ok (.ireturn, 1) := by decide +kernel
theorem dX5_wrap_18 : decode cX5_wrap 18 = .ok (.aload_n 0, 1) := by decide +kernel
theorem dX5_wrap_19 : decode cX5_wrap 19 = .ok (.getfield 12, 3) := by decide +kernel
theorem dX5_wrap_22 : decode cX5_wrap 22 = .ok (.iload_n 1, 1) := by decide +kernel
theorem dX5_wrap_23 : decode cX5_wrap 23 = .ok (.invokevirtual 162, 3) := by decide +kernel
theorem dX5_wrap_26 : decode cX5_wrap 26 = .ok (.istore 5, 2) := by decide +kernel
theorem dX5_wrap_28 : decode cX5_wrap 28 = .ok (.iload_n 2, 1) := by decide +kernel
theorem dX5_wrap_29 : decode cX5_wrap 29 = .ok (.iconst 0, 1) := by decide +kernel
theorem dX5_wrap_30 : decode cX5_wrap 30 = .ok (.iload 5, 2) := by decide +kernel
theorem dX5_wrap_32 : decode cX5_wrap 32 = .ok (.invokestatic 41, 3) := by decide +kernel
theorem dX5_wrap_35 : decode cX5_wrap 35 = .ok (.ifCond .eq 15, 3) := by decide +kernel
theorem dX5_wrap_38 : decode cX5_wrap 38 = .ok (.iload_n 3, 1) := by decide +kernel
theorem dX5_wrap_39 : decode cX5_wrap 39 = .ok (.iconst 0, 1) := by decide +kernel
theorem dX5_wrap_40 : decode cX5_wrap 40 = .ok (.iload 5, 2) := by decide +kernel
theorem dX5_wrap_42 : decode cX5_wrap 42 = .ok (.iload_n 2, 1) := by decide +kernel
theorem dX5_wrap_43 : decode cX5_wrap 43 = .ok (.isub, 1) := by decide +kernel
theorem dX5_wrap_44 : decode cX5_wrap 44 = .ok (.invokestatic 41, 3) := by decide +kernel
theorem dX5_wrap_47 : decode cX5_wrap 47 = .ok (.ifCond .ne 5, 3) := by decide +kernel
theorem dX5_wrap_50 : decode cX5_wrap 50 = .ok (.iconst (-1), 1) := by decide +kernel
theorem dX5_wrap_51 : decode cX5_wrap 51 = .ok (.ireturn, 1) := by decide +kernel
theorem dX5_wrap_52 : decode cX5_wrap 52 = .ok (.aload_n 0, 1) := by decide +kernel
theorem dX5_wrap_53 : decode cX5_wrap 53 = .ok (.getfield 12, 3) := by decide +kernel
theorem dX5_wrap_56 : decode cX5_wrap 56 = .ok (.invokevirtual 66, 3) := by decide +kernel
theorem dX5_wrap_59 : decode cX5_wrap 59 = .ok (.bipush 64, 2) := by decide +kernel
theorem dX5_wrap_61 : decode cX5_wrap 61 = .ok (.if_icmp .lt 6, 3) := by decide +kernel
theorem dX5_wrap_64 : decode cX5_wrap 64 = .ok (.bipush (-3), 2) := by decide +kernel
theorem dX5_wrap_66 : decode cX5_wrap 66 = .ok (.ireturn, 1) := by decide +kernel
theorem dX5_wrap_67 : decode cX5_wrap 67 = .ok (.aload_n 0, 1) := by decide +kernel
theorem dX5_wrap_68 : decode cX5_wrap 68 = .ok (.getfield 12, 3) := by decide +kernel
theorem dX5_wrap_71 : decode cX5_wrap 71 = .ok (.aload_n 0, 1) := by decide +kernel
theorem dX5_wrap_72 : decode cX5_wrap 72 = .ok (.getfield 12, 3) := by decide +kernel
theorem dX5_wrap_75 : decode cX5_wrap 75 = .ok (.iload_n 1, 1) := by decide +kernel
theorem dX5_wrap_76 : decode cX5_wrap 76 = .ok (.iload_n 2, 1) := by decide +kernel
theorem dX5_wrap_77 : decode cX5_wrap 77 = .ok (.invokevirtual 217, 3) := by decide +kernel
theorem dX5_wrap_80 : decode cX5_wrap 80 = .ok (.aload_n 0, 1) := by decide +kernel
theorem dX5_wrap_81 : decode cX5_wrap 81 = .ok (.getfield 12, 3) := by decide +kernel
theorem dX5_wrap_84 : decode cX5_wrap 84 = .ok (.iload_n 1, 1) := by decide +kernel
theorem dX5_wrap_85 : decode cX5_wrap 85 = .ok (.iload_n 2, 1) := by decide +kernel
theorem dX5_wrap_86 : decode cX5_wrap 86 = .ok (.iload_n 3, 1) := by decide +kernel
theorem dX5_wrap_87 : decode cX5_wrap 87 = .ok (.iadd, 1) := by decide +kernel
theorem dX5_wrap_88 : decode cX5_wrap 88 = .ok (.invokevirtual 217, 3) := by decide +kernel
theorem dX5_wrap_91 : decode cX5_wrap 91 = .ok (.iload 4, 2) := by decide +kernel
theorem dX5_wrap_93 : decode cX5_wrap 93 = .ok (.invokevirtual 224, 3) := by decide +kernel
theorem dX5_wrap_96 : decode cX5_wrap 96 = .ok (.ireturn, 1) := by decide +kernel
set_option maxRecDepth 20000 in
theorem ggX5_melt_X4_has : GoodIn wsX5_melt wsX4_has := goodIn_r _ [6, 7, 8, 9, 5, 10, 11, 135, 136, 137, 138, 139, 140, 141, 142, 143] (by decide +kernel) (by decide +kernel)
set_option maxRecDepth 20000 in
theorem gX5_melt_X4_has : GoodIn wsX5_melt (wsV RX5 135 RX4 yX4_has wsX4_has) := goodIn_app (goodIn_of _ (by decide +kernel)) ggX5_melt_X4_has
set_option maxRecDepth 20000 in
theorem ggX5_melt_X4_childrenOf : GoodIn wsX5_melt wsX4_childrenOf := goodIn_r _ [15, 11, 16, 17, 18, 5, 19, 20, 21, 22, 23, 24, 25, 26, 27, 28, 29, 30, 31, 32, 33, 34, 35, 36, 37, 38, 39, 40, 41, 42, 43, 44, 45, 46, 47, 48, 49, 50, 51, 52, 53, 54, 55, 56, 57, 58, 59, 60, 61, 62, 63, 64, 65, 66, 67, 68, 69, 70, 71, 72, 73, 74, 75, 76, 77, 78, 79, 80, 81, 82, 83, 84, 85, 86, 87, 88, 89, 90, 91, 92, 93, 94, 135, 136, 137, 138, 139, 140, 141, 142, 143] (by decide +kernel) (by decide +kernel)
set_option maxRecDepth 20000 in
theorem gX5_melt_X4_childrenOf : GoodIn wsX5_melt (wsV RX5 162 RX4 yX4_childrenOf wsX4_childrenOf) := goodIn_app (goodIn_of _ (by decide +kernel)) ggX5_melt_X4_childrenOf
set_option maxRecDepth 20000 in
theorem ggX5_melt_X4_removeAlone : GoodIn wsX5_melt wsX4_removeAlone := goodIn_r _ [98, 11, 16, 17, 18, 5, 19, 20, 21, 22, 23, 24, 25, 26, 27, 28, 29, 30, 31, 32, 33, 34, 35, 36, 37, 38, 39, 40, 41, 42, 43, 44, 45, 46, 47, 48, 49, 50, 51, 52, 53, 54, 55, 56, 57, 58, 59, 60, 61, 62, 63, 64, 65, 66, 67, 68, 69, 70, 71, 72, 73, 74, 75, 76, 77, 78, 79, 80, 81, 82, 83, 84, 85, 86, 87, 88, 89, 99, 100, 101, 102, 103, 104, 105, 106, 107, 7, 8, 9, 10, 108, 109, 110, 111, 112, 113, 114, 115, 116, 117, 118, 119, 120, 121, 122, 123, 124, 125, 126, 135, 136, 137, 138, 139, 140, 141, 142, 143] (by decide +kernel) (by decide +kernel)
set_option maxRecDepth 20000 in
theorem gX5_melt_X4_removeAlone : GoodIn wsX5_melt (wsV RX5 227 RX4 yX4_removeAlone wsX4_removeAlone) := goodIn_app (goodIn_of _ (by decide +kernel)) ggX5_melt_X4_removeAlone
set_option maxRecDepth 20000 in
theorem ggX5_melt_X4_nodes : GoodIn wsX5_melt wsX4_nodes := goodIn_r _ [10, 11, 135, 136, 137, 138, 139, 140, 141, 142, 143] (by decide +kernel) (by decide +kernel)
set_option maxRecDepth 20000 in
theorem gX5_melt_X4_nodes : GoodIn wsX5_melt (wsV RX5 66 RX4 yX4_nodes wsX4_nodes) := goodIn_app (goodIn_of _ (by decide +kernel)) ggX5_melt_X4_nodes
theorem dX5_melt_0 : decode cX5_melt 0 = .ok (.aload_n 0, 1) := by decide +kernel
theorem dX5_melt_1 : decode cX5_melt 1 = .ok (.getfield 12, 3) := by decide +kernel
theorem dX5_melt_4 : decode cX5_melt 4 = .ok (.iload_n 1, 1) := by decide +kernel
theorem dX5_melt_5 : decode cX5_melt 5 = .ok (.invokevirtual 135, 3) := by decide +kernel
theorem dX5_melt_8 : decode cX5_melt 8 = .ok (.ifCond .ne 5, 3) := by decide +kernel
theorem dX5_melt_11 : decode cX5_melt 11 = .ok (.iconst (-1), 1) := by decide +kernel
theorem dX5_melt_12 : decode cX5_melt 12 = .ok (.ireturn, 1) := by decide +kernel
theorem dX5_melt_13 : decode cX5_melt 13 = .ok (.iload_n 1, 1) := by decide +kernel
theorem dX5_melt_14 : decode cX5_melt 14 = .ok (.ifCond .ne 18, 3) := by decide +kernel
theorem dX5_melt_17 : decode cX5_melt 17 = .ok (.aload_n 0, 1) := by decide +kernel
theorem dX5_melt_18 : decode cX5_melt 18 = .ok (.getfield 12, 3) := by decide +kernel
theorem dX5_melt_21 : decode cX5_melt 21 = .ok (.iconst 0, 1) := by decide +kernel
theorem dX5_melt_22 : decode cX5_melt 22 = .ok (.invokevirtual 162, 3) := by decide +kernel
theorem dX5_melt_25 : decode cX5_melt 25 = .ok (.iconst 1, 1) := by decide +kernel
theorem dX5_melt_26 : decode cX5_melt 26 = .ok (.if_icmp .eq 6, 3) := by decide +kernel
theorem dX5_melt_29 : decode cX5_melt 29 = .ok (.bipush (-2), 2) := by decide +kernel
theorem dX5_melt_31 : decode cX5_melt 31 = .ok (.ireturn, 1) := by decide +kernel
theorem dX5_melt_32 : decode cX5_melt 32 = .ok (.aload_n 0, 1) := by decide +kernel
theorem dX5_melt_33 : decode cX5_melt 33 = .ok (.getfield 12, 3) := by decide +kernel
theorem dX5_melt_36 : decode cX5_melt 36 = .ok (.iload_n 1, 1) := by decide +kernel
theorem dX5_melt_37 : decode cX5_melt 37 = .ok (.invokevirtual 227, 3) := by decide +kernel
theorem dX5_melt_40 : decode cX5_melt 40 = .ok (.aload_n 0, 1) := by decide +kernel
theorem dX5_melt_41 : decode cX5_melt 41 = .ok (.getfield 12, 3) := by decide +kernel
theorem dX5_melt_44 : decode cX5_melt 44 = .ok (.invokevirtual 66, 3) := by decide +kernel
theorem dX5_melt_47 : decode cX5_melt 47 = .ok (.ireturn, 1) := by decide +kernel
set_option maxRecDepth 20000 in
theorem ggX5_graft_X4_has : GoodIn wsX5_graft wsX4_has := goodIn_r _ [6, 7, 8, 9, 5, 10, 11, 184, 185, 186, 187, 188, 189, 190, 191, 192] (by decide +kernel) (by decide +kernel)
set_option maxRecDepth 20000 in
theorem gX5_graft_X4_has : GoodIn wsX5_graft (wsV RX5 135 RX4 yX4_has wsX4_has) := goodIn_app (goodIn_of _ (by decide +kernel)) ggX5_graft_X4_has
set_option maxRecDepth 20000 in
theorem ggX5_graft_X4_isAbove : GoodIn wsX5_graft wsX4_isAbove := goodIn_r _ [15, 16, 17, 18, 5, 19, 11, 20, 21, 22, 23, 24, 25, 26, 27, 28, 29, 30, 31, 32, 33, 34, 35, 36, 37, 38, 39, 40, 41, 42, 43, 44, 45, 46, 47, 48, 49, 50, 51, 52, 53, 54, 55, 56, 57, 58, 59, 60, 61, 62, 63, 64, 65, 66, 67, 68, 69, 70, 71, 72, 73, 74, 75, 76, 77, 78, 79, 80, 81, 82, 83, 84, 85, 86, 87, 88, 89, 90, 91, 92, 93, 184, 185, 186, 187, 188, 189, 190, 191, 192] (by decide +kernel) (by decide +kernel)
set_option maxRecDepth 20000 in
theorem gX5_graft_X4_isAbove : GoodIn wsX5_graft (wsV RX5 230 RX4 yX4_isAbove wsX4_isAbove) := goodIn_app (goodIn_of _ (by decide +kernel)) ggX5_graft_X4_isAbove
set_option maxRecDepth 20000 in
theorem ggX5_graft_X4_childrenOf : GoodIn wsX5_graft wsX4_childrenOf := goodIn_r _ [97, 11, 20, 21, 22, 5, 23, 24, 25, 26, 27, 28, 29, 30, 31, 32, 33, 34, 35, 36, 37, 38, 39, 40, 41, 42, 43, 44, 45, 46, 47, 48, 49, 50, 51, 52, 53, 54, 55, 56, 57, 58, 59, 60, 61, 62, 63, 64, 65, 66, 67, 68, 69, 70, 71, 72, 73, 74, 75, 76, 77, 78, 79, 80, 81, 82, 83, 84, 85, 86, 87, 88, 89, 90, 91, 92, 93, 98, 99, 100, 101, 102, 184, 185, 186, 187, 188, 189, 190, 191, 192] (by decide +kernel) (by decide +kernel)
set_option maxRecDepth 20000 in
theorem gX5_graft_X4_childrenOf : GoodIn wsX5_graft (wsV RX5 162 RX4 yX4_childrenOf wsX4_childrenOf) := goodIn_app (goodIn_of _ (by decide +kernel)) ggX5_graft_X4_childrenOf
set_option maxRecDepth 20000 in
theorem ggX5_graft_X4_aboveBy : GoodIn wsX5_graft wsX4_aboveBy := goodIn_r _ [106, 11, 20, 21, 22, 5, 23, 24, 25, 26, 27, 28, 29, 30, 31, 32, 33, 34, 35, 36, 37, 38, 39, 40, 41, 42, 43, 44, 45, 46, 47, 48, 49, 50, 51, 52, 53, 54, 55, 56, 57, 58, 59, 60, 61, 62, 98, 72, 73, 74, 107, 91, 92, 93, 79, 71, 86, 87, 88, 89, 80, 81, 82, 83, 84, 85, 108, 109, 110, 111, 184, 185, 186, 187, 188, 189, 190, 191, 192] (by decide +kernel) (by decide +kernel)
set_option maxRecDepth 20000 in
theorem gX5_graft_X4_aboveBy : GoodIn wsX5_graft (wsV RX5 147 RX4 yX4_aboveBy wsX4_aboveBy) := goodIn_app (goodIn_of _ (by decide +kernel)) ggX5_graft_X4_aboveBy
set_option maxRecDepth 20000 in
theorem ggX5_graft_X5_within : GoodIn wsX5_graft wsX5_within := goodIn_r _ [115] (by decide +kernel) (by decide +kernel)
set_option maxRecDepth 20000 in
theorem gX5_graft_X5_within : GoodIn wsX5_graft (va_wsS RX5 41 yX5_within wsX5_within) := goodIn_app (goodIn_of _ (by decide +kernel)) ggX5_graft_X5_within
set_option maxRecDepth 20000 in
theorem ggX5_graft_X4_moveSubtree : GoodIn wsX5_graft wsX4_moveSubtree := goodIn_r _ [119, 11, 120, 121, 122, 123, 124, 125, 16, 17, 18, 5, 19, 20, 21, 22, 23, 24, 25, 26, 27, 28, 29, 30, 31, 32, 33, 34, 35, 36, 37, 38, 39, 40, 41, 42, 43, 44, 45, 46, 47, 48, 49, 50, 51, 52, 53, 54, 55, 56, 57, 58, 59, 60, 61, 62, 63, 64, 65, 66, 67, 68, 69, 70, 71, 72, 73, 74, 75, 76, 77, 78, 79, 80, 81, 82, 83, 84, 85, 86, 87, 88, 89, 90, 91, 92, 93, 126, 127, 128, 129, 130, 131, 132, 133, 134, 135, 136, 137, 7, 8, 9, 10, 138, 139, 140, 141, 142, 143, 144, 145, 146, 147, 148, 149, 150, 151, 152, 153, 154, 155, 156, 157, 158, 159, 160, 98, 161, 162, 108, 109, 110, 111, 163, 164, 165, 166, 167, 168, 169, 170, 171, 172, 173, 174, 175, 176, 184, 185, 186, 187, 188, 189, 190, 191, 192] (by decide +kernel) (by decide +kernel)
set_option maxRecDepth 20000 in
theorem gX5_graft_X4_moveSubtree : GoodIn wsX5_graft (wsV RX5 233 RX4 yX4_moveSubtree wsX4_moveSubtree) := goodIn_app (goodIn_of _ (by decide +kernel)) ggX5_graft_X4_moveSubtree
theorem dX5_graft_0 : decode cX5_graft 0 = .ok (.aload_n 0, 1) := by decide +kernel
theorem dX5_graft_1 : decode cX5_graft 1 = .ok (.getfield 12, 3) := by decide +kernel
theorem dX5_graft_4 : decode cX5_graft 4 = .ok (.iload_n 1, 1) := by decide +kernel
theorem dX5_graft_5 : decode cX5_graft 5 = .ok (.invokevirtual 135, 3) := by decide +kernel
theorem dX5_graft_8 : decode cX5_graft 8 = .ok (.ifCond .eq 14, 3) := by decide +kernel
theorem dX5_graft_11 : decode cX5_graft 11 = .ok (.aload_n 0, 1) := by decide +kernel
theorem dX5_graft_12 : decode cX5_graft 12 = .ok (.getfield 12, 3) := by decide +kernel
theorem dX5_graft_15 : decode cX5_graft 15 = .ok (.iload_n 2, 1) := by decide +kernel
theorem dX5_graft_16 : decode cX5_graft 16 = .ok (.invokevirtual 135, 3) := by decide +kernel
theorem dX5_graft_19 : decode cX5_graft 19 = .ok (.ifCond .ne 5, 3) := by decide +kernel
theorem dX5_graft_22 : decode cX5_graft 22 = .ok (.iconst (-1), 1) := by decide +kernel
theorem dX5_graft_23 : decode cX5_graft 23 = .ok (.ireturn, 1) := by decide +kernel
theorem dX5_graft_24 : decode cX5_graft 24 = .ok (.iload_n 1, 1) := by decide +kernel
theorem dX5_graft_25 : decode cX5_graft 25 = .ok (.ifCond .eq 15, 3) := by decide +kernel
theorem dX5_graft_28 : decode cX5_graft 28 = .ok (.aload_n 0, 1) := by decide +kernel
theorem dX5_graft_29 : decode cX5_graft 29 = .ok (.getfield 12, 3) := by decide +kernel
theorem dX5_graft_32 : decode cX5_graft 32 = .ok (.iload_n 1, 1) := by decide +kernel
theorem dX5_graft_33 : decode cX5_graft 33 = .ok (.iload_n 2, 1) := by decide +kernel
theorem dX5_graft_34 : decode cX5_graft 34 = .ok (.invokevirtual 230, 3) := by decide +kernel
theorem dX5_graft_37 : decode cX5_graft 37 = .ok (.ifCond .eq 6, 3) := by decide +kernel
theorem dX5_graft_40 : decode cX5_graft 40 = .ok (.bipush (-2), 2) := by decide +kernel
theorem dX5_graft_42 : decode cX5_graft 42 = .ok (.ireturn, 1) := by decide +kernel
theorem dX5_graft_43 : decode cX5_graft 43 = .ok (.aload_n 0, 1) := by decide +kernel
theorem dX5_graft_44 : decode cX5_graft 44 = .ok (.getfield 12, 3) := by decide +kernel
theorem dX5_graft_47 : decode cX5_graft 47 = .ok (.iload_n 2, 1) := by decide +kernel
theorem dX5_graft_48 : decode cX5_graft 48 = .ok (.invokevirtual 162, 3) := by decide +kernel
theorem dX5_graft_51 : decode cX5_graft 51 = .ok (.aload_n 0, 1) := by decide +kernel
theorem dX5_graft_52 : decode cX5_graft 52 = .ok (.getfield 12, 3) := by decide +kernel
theorem dX5_graft_55 : decode cX5_graft 55 = .ok (.iload_n 1, 1) := by decide +kernel
theorem dX5_graft_56 : decode cX5_graft 56 = .ok (.iconst 1, 1) := by decide +kernel
theorem dX5_graft_57 : decode cX5_graft 57 = .ok (.invokevirtual 147, 3) := by decide +kernel
theorem dX5_graft_60 : decode cX5_graft 60 = .ok (.iload_n 2, 1) := by decide +kernel
theorem dX5_graft_61 : decode cX5_graft 61 = .ok (.if_icmp .ne 7, 3) := by decide +kernel
theorem dX5_graft_64 : decode cX5_graft 64 = .ok (.iconst 1, 1) := by decide +kernel
theorem dX5_graft_65 : decode cX5_graft 65 = .ok (.goto 4, 3) := by decide +kernel
theorem dX5_graft_68 : decode cX5_graft 68 = .ok (.iconst 0, 1) := by decide +kernel
theorem dX5_graft_69 : decode cX5_graft 69 = .ok (.isub, 1) := by decide +kernel
theorem dX5_graft_70 : decode cX5_graft 70 = .ok (.istore 4, 2) := by decide +kernel
theorem dX5_graft_72 : decode cX5_graft 72 = .ok (.iload_n 3, 1) := by decide +kernel
theorem dX5_graft_73 : decode cX5_graft 73 = .ok (.iconst 0, 1) := by decide +kernel
theorem dX5_graft_74 : decode cX5_graft 74 = .ok (.iload 4, 2) := by decide +kernel
theorem dX5_graft_76 : decode cX5_graft 76 = .ok (.invokestatic 41, 3) := by decide +kernel
theorem dX5_graft_79 : decode cX5_graft 79 = .ok (.ifCond .ne 5, 3) := by decide +kernel
theorem dX5_graft_82 : decode cX5_graft 82 = .ok (.iconst (-1), 1) := by decide +kernel
theorem dX5_graft_83 : decode cX5_graft 83 = .ok (.ireturn, 1) := by decide +kernel
theorem dX5_graft_84 : decode cX5_graft 84 = .ok (.aload_n 0, 1) := by decide +kernel
theorem dX5_graft_85 : decode cX5_graft 85 = .ok (.getfield 12, 3) := by decide +kernel
theorem dX5_graft_88 : decode cX5_graft 88 = .ok (.iload_n 1, 1) := by decide +kernel
theorem dX5_graft_89 : decode cX5_graft 89 = .ok (.iload_n 2, 1) := by decide +kernel
theorem dX5_graft_90 : decode cX5_graft 90 = .ok (.iload_n 3, 1) := by decide +kernel
theorem dX5_graft_91 : decode cX5_graft 91 = .ok (.invokevirtual 233, 3) := by decide +kernel
theorem dX5_graft_94 : decode cX5_graft 94 = .ok (.ireturn, 1) := by decide +kernel
set_option maxRecDepth 20000 in
theorem ggX5_grow_X5_within : GoodIn wsX5_grow wsX5_within := goodIn_r _ [6] (by decide +kernel) (by decide +kernel)
set_option maxRecDepth 20000 in
theorem gX5_grow_X5_within : GoodIn wsX5_grow (va_wsS RX5 41 yX5_within wsX5_within) := goodIn_app (goodIn_of _ (by decide +kernel)) ggX5_grow_X5_within
set_option maxRecDepth 20000 in
theorem ggX5_grow_X1_clear : GoodIn wsX5_grow wsX1_clear := goodIn_r _ [11, 12, 13, 14, 156, 157, 158, 159, 160, 161] (by decide +kernel) (by decide +kernel)
set_option maxRecDepth 20000 in
theorem gX5_grow_X1_clear : GoodIn wsX5_grow (wsV RX5 236 RX1 yX1_clear wsX1_clear) := goodIn_app (goodIn_of _ (by decide +kernel)) ggX5_grow_X1_clear
set_option maxRecDepth 20000 in
theorem ggX5_grow_X4_addLeafAt : GoodIn wsX5_grow wsX4_addLeafAt := goodIn_r _ [19, 20, 21, 22, 23, 24, 10, 25, 26, 27, 28, 29, 12, 13, 30, 31, 32, 33, 34, 35, 36, 37, 38, 39, 40, 41, 42, 43, 44, 18, 45, 46, 47, 48, 49, 50, 51, 52, 53, 54, 55, 56, 57, 58, 14, 59, 60, 61, 62, 63, 64, 65, 66, 67, 68, 69, 70, 71, 72, 73, 74, 75, 76, 77, 78, 79, 80, 81, 82, 83, 84, 85, 86, 153, 154, 155, 156, 157, 158, 159, 160, 161] (by decide +kernel) (by decide +kernel)
set_option maxRecDepth 20000 in
theorem gX5_grow_X4_addLeafAt : GoodIn wsX5_grow (wsV RX5 214 RX4 yX4_addLeafAt wsX4_addLeafAt) := goodIn_app (goodIn_of _ (by decide +kernel)) ggX5_grow_X4_addLeafAt
set_option maxRecDepth 20000 in
theorem ggX5_grow_X4_closeOf : GoodIn wsX5_grow wsX4_closeOf := goodIn_r _ [90, 20, 91, 92, 93, 18, 94, 95, 96, 97, 10, 98, 99, 100, 101, 102, 12, 58, 14, 13, 30, 31, 32, 33, 34, 103, 104, 105, 35, 36, 37, 38, 39, 40, 41, 106, 107, 108, 109, 110, 111, 112, 113, 114, 115, 116, 117, 118, 119, 120, 121, 122, 123, 124, 26, 27, 28, 29, 125, 126, 127, 128, 80, 129, 130, 131, 132, 81, 82, 83, 84, 85, 86, 133, 134, 135, 136, 153, 154, 155, 156, 157, 158, 159, 160, 161] (by decide +kernel) (by decide +kernel)
set_option maxRecDepth 20000 in
theorem gX5_grow_X4_closeOf : GoodIn wsX5_grow (wsV RX5 141 RX4 yX4_closeOf wsX4_closeOf) := goodIn_app (goodIn_of _ (by decide +kernel)) ggX5_grow_X4_closeOf
set_option maxRecDepth 20000 in
theorem ggX5_grow_X4_heightOf : GoodIn wsX5_grow wsX4_heightOf := goodIn_r _ [140, 20, 91, 92, 93, 18, 94, 95, 96, 97, 10, 98, 99, 100, 101, 102, 12, 58, 14, 13, 30, 31, 32, 33, 34, 103, 104, 105, 35, 36, 37, 38, 39, 40, 41, 106, 107, 108, 109, 110, 111, 112, 113, 114, 115, 116, 117, 118, 119, 120, 121, 122, 123, 124, 26, 27, 28, 29, 125, 126, 127, 128, 80, 129, 130, 131, 132, 81, 82, 83, 84, 85, 86, 133, 134, 135, 136, 141, 142, 143, 144, 77, 78, 75, 79, 73, 74, 76, 145, 153, 154, 155, 156, 157, 158, 159, 160, 161] (by decide +kernel) (by decide +kernel)
set_option maxRecDepth 20000 in
theorem gX5_grow_X4_heightOf : GoodIn wsX5_grow (wsV RX5 83 RX4 yX4_heightOf wsX4_heightOf) := goodIn_app (goodIn_of _ (by decide +kernel)) ggX5_grow_X4_heightOf
theorem dX5_grow_0 : decode cX5_grow 0 = .ok (.iload_n 2, 1) := by decide +kernel
theorem dX5_grow_1 : decode cX5_grow 1 = .ok (.iconst 1, 1) := by decide +kernel
theorem dX5_grow_2 : decode cX5_grow 2 = .ok (.bipush 64, 2) := by decide +kernel
theorem dX5_grow_4 : decode cX5_grow 4 = .ok (.invokestatic 41, 3) := by decide +kernel
theorem dX5_grow_7 : decode cX5_grow 7 = .ok (.ifCond .ne 5, 3) := by decide +kernel
theorem dX5_grow_10 : decode cX5_grow 10 = .ok (.iconst (-1), 1) := by decide +kernel
theorem dX5_grow_11 : decode cX5_grow 11 = .ok (.ireturn, 1) := by decide +kernel
theorem dX5_grow_12 : decode cX5_grow 12 = .ok (.aload_n 0, 1) := by decide +kernel
theorem dX5_grow_13 : decode cX5_grow 13 = .ok (.getfield 12, 3) := by decide +kernel
theorem dX5_grow_16 : decode cX5_grow 16 = .ok (.getfield 70, 3) := by decide +kernel
theorem dX5_grow_19 : decode cX5_grow 19 = .ok (.invokevirtual 236, 3) := by decide +kernel
theorem dX5_grow_22 : decode cX5_grow 22 = .ok (.aload_n 0, 1) := by decide +kernel
theorem dX5_grow_23 : decode cX5_grow 23 = .ok (.getfield 12, 3) := by decide +kernel
theorem dX5_grow_26 : decode cX5_grow 26 = .ok (.iconst 0, 1) := by decide +kernel
theorem dX5_grow_27 : decode cX5_grow 27 = .ok (.iconst 0, 1) := by decide +kernel
theorem dX5_grow_28 : decode cX5_grow 28 = .ok (.invokevirtual 214, 3) := by decide +kernel
theorem dX5_grow_31 : decode cX5_grow 31 = .ok (.pop, 1) := by decide +kernel
theorem dX5_grow_32 : decode cX5_grow 32 = .ok (.iload_n 1, 1) := by decide +kernel
theorem dX5_grow_33 : decode cX5_grow 33 = .ok (.istore_n 3, 1) := by decide +kernel
theorem dX5_grow_34 : decode cX5_grow 34 = .ok (.iconst 1, 1) := by decide +kernel
theorem dX5_grow_35 : decode cX5_grow 35 = .ok (.istore 4, 2) := by decide +kernel
theorem dX5_grow_37 : decode cX5_grow 37 = .ok (.iload 4, 2) := by decide +kernel
theorem dX5_grow_39 : decode cX5_grow 39 = .ok (.iload_n 2, 1) := by decide +kernel
theorem dX5_grow_40 : decode cX5_grow 40 = .ok (.if_icmp .ge 49, 3) := by decide +kernel
theorem dX5_grow_43 : decode cX5_grow 43 = .ok (.iload_n 3, 1) := by decide +kernel
theorem dX5_grow_44 : decode cX5_grow 44 = .ok (.ldc 239, 2) := by decide +kernel
theorem dX5_grow_46 : decode cX5_grow 46 = .ok (.imul, 1) := by decide +kernel
theorem dX5_grow_47 : decode cX5_grow 47 = .ok (.sipush 12345, 3) := by decide +kernel
theorem dX5_grow_50 : decode cX5_grow 50 = .ok (.iadd, 1) := by decide +kernel
theorem dX5_grow_51 : decode cX5_grow 51 = .ok (.istore_n 3, 1) := by decide +kernel
theorem dX5_grow_52 : decode cX5_grow 52 = .ok (.iload_n 3, 1) := by decide +kernel
theorem dX5_grow_53 : decode cX5_grow 53 = .ok (.bipush 16, 2) := by decide +kernel
theorem dX5_grow_55 : decode cX5_grow 55 = .ok (.iushr, 1) := by decide +kernel
theorem dX5_grow_56 : decode cX5_grow 56 = .ok (.sipush 32767, 3) := by decide +kernel
theorem dX5_grow_59 : decode cX5_grow 59 = .ok (.iand, 1) := by decide +kernel
theorem dX5_grow_60 : decode cX5_grow 60 = .ok (.istore 5, 2) := by decide +kernel
theorem dX5_grow_62 : decode cX5_grow 62 = .ok (.aload_n 0, 1) := by decide +kernel
theorem dX5_grow_63 : decode cX5_grow 63 = .ok (.getfield 12, 3) := by decide +kernel
theorem dX5_grow_66 : decode cX5_grow 66 = .ok (.aload_n 0, 1) := by decide +kernel
theorem dX5_grow_67 : decode cX5_grow 67 = .ok (.getfield 12, 3) := by decide +kernel
theorem dX5_grow_70 : decode cX5_grow 70 = .ok (.iload 5, 2) := by decide +kernel
theorem dX5_grow_72 : decode cX5_grow 72 = .ok (.iload 4, 2) := by decide +kernel
theorem dX5_grow_74 : decode cX5_grow 74 = .ok (.irem, 1) := by decide +kernel
theorem dX5_grow_75 : decode cX5_grow 75 = .ok (.invokevirtual 141, 3) := by decide +kernel
theorem dX5_grow_78 : decode cX5_grow 78 = .ok (.iconst 0, 1) := by decide +kernel
theorem dX5_grow_79 : decode cX5_grow 79 = .ok (.invokevirtual 214, 3) := by decide +kernel
theorem dX5_grow_82 : decode cX5_grow 82 = .ok (.pop, 1) := by decide +kernel
theorem dX5_grow_83 : decode cX5_grow 83 = .ok (.iinc 4 1, 3) := by decide +kernel
theorem dX5_grow_86 : decode cX5_grow 86 = .ok (.goto (-49), 3) := by decide +kernel
theorem dX5_grow_89 : decode cX5_grow 89 = .ok (.aload_n 0, 1) := by decide +kernel
theorem dX5_grow_90 : decode cX5_grow 90 = .ok (.getfield 12, 3) := by decide +kernel
theorem dX5_grow_93 : decode cX5_grow 93 = .ok (.iconst 0, 1) := by decide +kernel
theorem dX5_grow_94 : decode cX5_grow 94 = .ok (.invokevirtual 83, 3) := by decide +kernel
theorem dX5_grow_97 : decode cX5_grow 97 = .ok (.ireturn, 1) := by decide +kernel
set_option maxRecDepth 20000 in
theorem ggX5_keep_X5_within : GoodIn wsX5_keep wsX5_within := goodIn_r _ [7] (by decide +kernel) (by decide +kernel)
set_option maxRecDepth 20000 in
theorem gX5_keep_X5_within : GoodIn wsX5_keep (va_wsS RX5 41 yX5_within wsX5_within) := goodIn_app (goodIn_of _ (by decide +kernel)) ggX5_keep_X5_within
set_option maxRecDepth 20000 in
theorem ggX5_keep_X4_become : GoodIn wsX5_keep wsX4_become := goodIn_r _ [12, 13, 14, 15, 16, 17, 18, 19, 20, 21, 22, 23, 24, 25, 26, 27, 28, 29, 30, 38, 39, 40, 41, 42, 43, 44, 45, 46] (by decide +kernel) (by decide +kernel)
set_option maxRecDepth 20000 in
theorem gX5_keep_X4_become : GoodIn wsX5_keep (wsV RX5 63 RX4 yX4_become wsX4_become) := goodIn_app (goodIn_of _ (by decide +kernel)) ggX5_keep_X4_become
theorem dX5_keep_0 : decode cX5_keep 0 = .ok (.iload_n 1, 1) := by decide +kernel
theorem dX5_keep_1 : decode cX5_keep 1 = .ok (.iconst 0, 1) := by decide +kernel
theorem dX5_keep_2 : decode cX5_keep 2 = .ok (.iconst 1, 1) := by decide +kernel
theorem dX5_keep_3 : decode cX5_keep 3 = .ok (.invokestatic 41, 3) := by decide +kernel
theorem dX5_keep_6 : decode cX5_keep 6 = .ok (.ifCond .ne 5, 3) := by decide +kernel
theorem dX5_keep_9 : decode cX5_keep 9 = .ok (.iconst (-1), 1) := by decide +kernel
theorem dX5_keep_10 : decode cX5_keep 10 = .ok (.ireturn, 1) := by decide +kernel
theorem dX5_keep_11 : decode cX5_keep 11 = .ok (.aload_n 0, 1) := by decide +kernel
theorem dX5_keep_12 : decode cX5_keep 12 = .ok (.getfield 23, 3) := by decide +kernel
theorem dX5_keep_15 : decode cX5_keep 15 = .ok (.iload_n 1, 1) := by decide +kernel
theorem dX5_keep_16 : decode cX5_keep 16 = .ok (.baload, 1) := by decide +kernel
theorem dX5_keep_17 : decode cX5_keep 17 = .ok (.ifCond .eq 7, 3) := by decide +kernel
theorem dX5_keep_20 : decode cX5_keep 20 = .ok (.iconst 1, 1) := by decide +kernel
theorem dX5_keep_21 : decode cX5_keep 21 = .ok (.goto 4, 3) := by decide +kernel
theorem dX5_keep_24 : decode cX5_keep 24 = .ok (.iconst 0, 1) := by decide +kernel
theorem dX5_keep_25 : decode cX5_keep 25 = .ok (.istore_n 2, 1) := by decide +kernel
theorem dX5_keep_26 : decode cX5_keep 26 = .ok (.aload_n 0, 1) := by decide +kernel
theorem dX5_keep_27 : decode cX5_keep 27 = .ok (.getfield 19, 3) := by decide +kernel
theorem dX5_keep_30 : decode cX5_keep 30 = .ok (.iload_n 1, 1) := by decide +kernel
theorem dX5_keep_31 : decode cX5_keep 31 = .ok (.aaload, 1) := by decide +kernel
theorem dX5_keep_32 : decode cX5_keep 32 = .ok (.aload_n 0, 1) := by decide +kernel
theorem dX5_keep_33 : decode cX5_keep 33 = .ok (.getfield 12, 3) := by decide +kernel
theorem dX5_keep_36 : decode cX5_keep 36 = .ok (.invokevirtual 63, 3) := by decide +kernel
theorem dX5_keep_39 : decode cX5_keep 39 = .ok (.aload_n 0, 1) := by decide +kernel
theorem dX5_keep_40 : decode cX5_keep 40 = .ok (.getfield 23, 3) := by decide +kernel
theorem dX5_keep_43 : decode cX5_keep 43 = .ok (.iload_n 1, 1) := by decide +kernel
theorem dX5_keep_44 : decode cX5_keep 44 = .ok (.iconst 1, 1) := by decide +kernel
theorem dX5_keep_45 : decode cX5_keep 45 = .ok (.bastore, 1) := by decide +kernel
theorem dX5_keep_46 : decode cX5_keep 46 = .ok (.iload_n 2, 1) := by decide +kernel
theorem dX5_keep_47 : decode cX5_keep 47 = .ok (.ireturn, 1) := by decide +kernel
set_option maxRecDepth 20000 in
theorem ggX5_back_X5_within : GoodIn wsX5_back wsX5_within := goodIn_r _ [7] (by decide +kernel) (by decide +kernel)
