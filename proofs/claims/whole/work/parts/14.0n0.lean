theorem dX3_init_0 : decode cX3_init 0 = .ok (.aload_n 0, 1) := by decide +kernel
theorem dX3_init_1 : decode cX3_init 1 = .ok (.invokespecial 3, 3) := by decide +kernel
theorem dX3_init_4 : decode cX3_init 4 = .ok (.aload_n 0, 1) := by decide +kernel
theorem dX3_init_5 : decode cX3_init 5 = .ok (.sipush 160, 3) := by decide +kernel
theorem dX3_init_8 : decode cX3_init 8 = .ok (.newarray .byte, 2) := by decide +kernel
theorem dX3_init_10 : decode cX3_init 10 = .ok (.putfield 9, 3) := by decide +kernel
theorem dX3_init_13 : decode cX3_init 13 = .ok (.return_, 1) := by decide +kernel
theorem dX3_put_0 : decode cX3_put 0 = .ok (.aload_n 0, 1) := by decide +kernel
theorem dX3_put_1 : decode cX3_put 1 = .ok (.getfield 15, 3) := by decide +kernel
theorem dX3_put_4 : decode cX3_put 4 = .ok (.sipush 160, 3) := by decide +kernel
theorem dX3_put_7 : decode cX3_put 7 = .ok (.if_icmp .lt 5, 3) := by decide +kernel
theorem dX3_put_10 : decode cX3_put 10 = .ok (.iconst 0, 1) := by decide +kernel
theorem dX3_put_11 : decode cX3_put 11 = .ok (.ireturn, 1) := by decide +kernel
theorem dX3_put_12 : decode cX3_put 12 = .ok (.aload_n 0, 1) := by decide +kernel
theorem dX3_put_13 : decode cX3_put 13 = .ok (.getfield 9, 3) := by decide +kernel
theorem dX3_put_16 : decode cX3_put 16 = .ok (.aload_n 0, 1) := by decide +kernel
theorem dX3_put_17 : decode cX3_put 17 = .ok (.getfield 15, 3) := by decide +kernel
theorem dX3_put_20 : decode cX3_put 20 = .ok (.iload_n 1, 1) := by decide +kernel
theorem dX3_put_21 : decode cX3_put 21 = .ok (.i2b, 1) := by decide +kernel
theorem dX3_put_22 : decode cX3_put 22 = .ok (.bastore, 1) := by decide +kernel
theorem dX3_put_23 : decode cX3_put 23 = .ok (.aload_n 0, 1) := by decide +kernel
theorem dX3_put_24 : decode cX3_put 24 = .ok (.dup, 1) := by decide +kernel
theorem dX3_put_25 : decode cX3_put 25 = .ok (.getfield 15, 3) := by decide +kernel
theorem dX3_put_28 : decode cX3_put 28 = .ok (.iconst 1, 1) := by decide +kernel
theorem dX3_put_29 : decode cX3_put 29 = .ok (.iadd, 1) := by decide +kernel
theorem dX3_put_30 : decode cX3_put 30 = .ok (.putfield 15, 3) := by decide +kernel
theorem dX3_put_33 : decode cX3_put 33 = .ok (.iconst 1, 1) := by decide +kernel
theorem dX3_put_34 : decode cX3_put 34 = .ok (.ireturn, 1) := by decide +kernel
set_option maxRecDepth 20000 in
theorem ggX3_tell_X1_clear : GoodIn wsX3_tell wsX1_clear := goodIn_r _ [8, 9, 10, 11, 91, 92, 93, 94, 95, 96] rfl (by decide +kernel)
set_option maxRecDepth 20000 in
theorem gX3_tell_X1_clear : GoodIn wsX3_tell (wsV RX3 25 RX1 yX1_clear wsX1_clear) := goodIn_app (goodIn_of _ (by decide +kernel)) ggX3_tell_X1_clear
set_option maxRecDepth 20000 in
theorem ggX3_tell_X3_nextToken : GoodIn wsX3_tell wsX3_nextToken := goodIn_r _ [16, 1, 2, 17, 18, 19, 20, 15, 21, 22, 23, 24, 25, 26, 85, 86, 87, 88, 89, 90] rfl (by decide +kernel)
set_option maxRecDepth 20000 in
theorem gX3_tell_X3_nextToken : GoodIn wsX3_tell (wsV RX3 33 RX3 yX3_nextToken wsX3_nextToken) := goodIn_app (goodIn_of _ (by decide +kernel)) ggX3_tell_X3_nextToken
set_option maxRecDepth 20000 in
theorem ggX3_tell_X3_faultOf : GoodIn wsX3_tell wsX3_faultOf := goodIn_r _ [30, 31, 32, 33, 7, 34, 35, 36, 37, 38, 9, 10, 39, 40, 41, 42, 43, 44, 45, 46, 47, 48, 49, 50, 51, 91, 92, 93, 94, 95, 96] rfl (by decide +kernel)
set_option maxRecDepth 20000 in
theorem gX3_tell_X3_faultOf : GoodIn wsX3_tell (wsV RX3 37 RX3 yX3_faultOf wsX3_faultOf) := goodIn_app (goodIn_of _ (by decide +kernel)) ggX3_tell_X3_faultOf
set_option maxRecDepth 20000 in
theorem ggX3_tell_X3_take : GoodIn wsX3_tell wsX3_take := goodIn_r _ [55, 26, 56, 57, 58, 7, 59, 11, 9, 10, 31, 32, 33, 34, 35, 36, 37, 38, 39, 40, 41, 42, 43, 44, 45, 46, 47, 48, 49, 50, 82, 83, 84, 91, 92, 93, 94, 95, 96, 85, 86, 87, 88, 89, 90] rfl (by decide +kernel)
set_option maxRecDepth 20000 in
theorem gX3_tell_X3_take : GoodIn wsX3_tell (wsV RX3 44 RX3 yX3_take wsX3_take) := goodIn_app (goodIn_of _ (by decide +kernel)) ggX3_tell_X3_take
set_option maxRecDepth 20000 in
theorem ggX3_tell_X1_summarise : GoodIn wsX3_tell wsX1_summarise := goodIn_r _ [63, 64, 65, 66, 7, 67, 11, 68, 69, 70, 71, 72, 73, 74, 75, 76, 77, 78, 79, 80, 81, 9, 10, 91, 92, 93, 94, 95, 96] rfl (by decide +kernel)
set_option maxRecDepth 20000 in
theorem gX3_tell_X1_summarise : GoodIn wsX3_tell (wsV RX3 48 RX1 yX1_summarise wsX1_summarise) := goodIn_app (goodIn_of _ (by decide +kernel)) ggX3_tell_X1_summarise
theorem dX3_tell_0 : decode cX3_tell 0 = .ok (.aload_n 1, 1) := by decide +kernel
theorem dX3_tell_1 : decode cX3_tell 1 = .ok (.getfield 19, 3) := by decide +kernel
theorem dX3_tell_4 : decode cX3_tell 4 = .ok (.invokevirtual 25, 3) := by decide +kernel
theorem dX3_tell_7 : decode cX3_tell 7 = .ok (.aload_n 0, 1) := by decide +kernel
theorem dX3_tell_8 : decode cX3_tell 8 = .ok (.iconst 0, 1) := by decide +kernel
theorem dX3_tell_9 : decode cX3_tell 9 = .ok (.putfield 30, 3) := by decide +kernel
theorem dX3_tell_12 : decode cX3_tell 12 = .ok (.iconst 0, 1) := by decide +kernel
theorem dX3_tell_13 : decode cX3_tell 13 = .ok (.istore_n 2, 1) := by decide +kernel
theorem dX3_tell_14 : decode cX3_tell 14 = .ok (.iconst 0, 1) := by decide +kernel
theorem dX3_tell_15 : decode cX3_tell 15 = .ok (.istore_n 3, 1) := by decide +kernel
theorem dX3_tell_16 : decode cX3_tell 16 = .ok (.iload_n 3, 1) := by decide +kernel
theorem dX3_tell_17 : decode cX3_tell 17 = .ok (.aload_n 0, 1) := by decide +kernel
theorem dX3_tell_18 : decode cX3_tell 18 = .ok (.getfield 15, 3) := by decide +kernel
theorem dX3_tell_21 : decode cX3_tell 21 = .ok (.if_icmp .gt 55, 3) := by decide +kernel
theorem dX3_tell_24 : decode cX3_tell 24 = .ok (.aload_n 0, 1) := by decide +kernel
theorem dX3_tell_25 : decode cX3_tell 25 = .ok (.invokevirtual 33, 3) := by decide +kernel
theorem dX3_tell_28 : decode cX3_tell 28 = .ok (.istore 4, 2) := by decide +kernel
theorem dX3_tell_30 : decode cX3_tell 30 = .ok (.aload_n 0, 1) := by decide +kernel
theorem dX3_tell_31 : decode cX3_tell 31 = .ok (.aload_n 0, 1) := by decide +kernel
theorem dX3_tell_32 : decode cX3_tell 32 = .ok (.iload 4, 2) := by decide +kernel
theorem dX3_tell_34 : decode cX3_tell 34 = .ok (.iload_n 2, 1) := by decide +kernel
theorem dX3_tell_35 : decode cX3_tell 35 = .ok (.aload_n 1, 1) := by decide +kernel
theorem dX3_tell_36 : decode cX3_tell 36 = .ok (.getfield 19, 3) := by decide +kernel
theorem dX3_tell_39 : decode cX3_tell 39 = .ok (.invokevirtual 37, 3) := by decide +kernel
theorem dX3_tell_42 : decode cX3_tell 42 = .ok (.putfield 41, 3) := by decide +kernel
theorem dX3_tell_45 : decode cX3_tell 45 = .ok (.aload_n 0, 1) := by decide +kernel
theorem dX3_tell_46 : decode cX3_tell 46 = .ok (.getfield 41, 3) := by decide +kernel
theorem dX3_tell_49 : decode cX3_tell 49 = .ok (.ifCond .ne 27, 3) := by decide +kernel
theorem dX3_tell_52 : decode cX3_tell 52 = .ok (.iload 4, 2) := by decide +kernel
theorem dX3_tell_54 : decode cX3_tell 54 = .ok (.ifCond .ne 6, 3) := by decide +kernel
theorem dX3_tell_57 : decode cX3_tell 57 = .ok (.goto 19, 3) := by decide +kernel
theorem dX3_tell_60 : decode cX3_tell 60 = .ok (.aload_n 0, 1) := by decide +kernel
theorem dX3_tell_61 : decode cX3_tell 61 = .ok (.iload 4, 2) := by decide +kernel
theorem dX3_tell_63 : decode cX3_tell 63 = .ok (.aload_n 1, 1) := by decide +kernel
theorem dX3_tell_64 : decode cX3_tell 64 = .ok (.invokevirtual 44, 3) := by decide +kernel
theorem dX3_tell_67 : decode cX3_tell 67 = .ok (.iload 4, 2) := by decide +kernel
theorem dX3_tell_69 : decode cX3_tell 69 = .ok (.istore_n 2, 1) := by decide +kernel
theorem dX3_tell_70 : decode cX3_tell 70 = .ok (.iinc 3 1, 3) := by decide +kernel
theorem dX3_tell_73 : decode cX3_tell 73 = .ok (.goto (-57), 3) := by decide +kernel
theorem dX3_tell_76 : decode cX3_tell 76 = .ok (.aload_n 1, 1) := by decide +kernel
theorem dX3_tell_77 : decode cX3_tell 77 = .ok (.getfield 19, 3) := by decide +kernel
theorem dX3_tell_80 : decode cX3_tell 80 = .ok (.iconst 0, 1) := by decide +kernel
theorem dX3_tell_81 : decode cX3_tell 81 = .ok (.invokevirtual 48, 3) := by decide +kernel
theorem dX3_tell_84 : decode cX3_tell 84 = .ok (.return_, 1) := by decide +kernel
set_option maxRecDepth 20000 in
theorem ggX3_faultOf_X1_opensAhead : GoodIn wsX3_faultOf wsX1_opensAhead := goodIn_r _ [5, 6, 7, 8, 4, 9, 10, 11, 12, 13, 14, 15, 16, 17, 18, 19, 20, 21, 22, 23, 25, 26, 27, 28, 29, 30] rfl (by decide +kernel)
set_option maxRecDepth 20000 in
theorem gX3_faultOf_X1_opensAhead : GoodIn wsX3_faultOf (wsV RX3 55 RX1 yX1_opensAhead wsX1_opensAhead) := goodIn_app (goodIn_of _ (by decide +kernel)) ggX3_faultOf_X1_opensAhead
set_option maxRecDepth 20000 in
theorem ggX3_faultOf_X1_excessAt : GoodIn wsX3_faultOf wsX1_excessAt := goodIn_r _ [9, 10, 11, 12, 13, 14, 15, 16, 17, 18, 19, 20, 21, 22, 23, 25, 26, 27, 28, 29, 30] rfl (by decide +kernel)
set_option maxRecDepth 20000 in
theorem gX3_faultOf_X1_excessAt : GoodIn wsX3_faultOf (wsV RX3 59 RX1 yX1_excessAt wsX1_excessAt) := goodIn_app (goodIn_of _ (by decide +kernel)) ggX3_faultOf_X1_excessAt
theorem dX3_faultOf_0 : decode cX3_faultOf 0 = .ok (.aload_n 3, 1) := by decide +kernel
theorem dX3_faultOf_1 : decode cX3_faultOf 1 = .ok (.aload_n 3, 1) := by decide +kernel
theorem dX3_faultOf_2 : decode cX3_faultOf 2 = .ok (.getfield 52, 3) := by decide +kernel
theorem dX3_faultOf_5 : decode cX3_faultOf 5 = .ok (.invokevirtual 55, 3) := by decide +kernel
theorem dX3_faultOf_8 : decode cX3_faultOf 8 = .ok (.istore 4, 2) := by decide +kernel
theorem dX3_faultOf_10 : decode cX3_faultOf 10 = .ok (.aload_n 3, 1) := by decide +kernel
theorem dX3_faultOf_11 : decode cX3_faultOf 11 = .ok (.aload_n 3, 1) := by decide +kernel
theorem dX3_faultOf_12 : decode cX3_faultOf 12 = .ok (.getfield 52, 3) := by decide +kernel
theorem dX3_faultOf_15 : decode cX3_faultOf 15 = .ok (.invokevirtual 59, 3) := by decide +kernel
theorem dX3_faultOf_18 : decode cX3_faultOf 18 = .ok (.ifCond .le 7, 3) := by decide +kernel
theorem dX3_faultOf_21 : decode cX3_faultOf 21 = .ok (.iconst 1, 1) := by decide +kernel
theorem dX3_faultOf_22 : decode cX3_faultOf 22 = .ok (.goto 4, 3) := by decide +kernel
theorem dX3_faultOf_25 : decode cX3_faultOf 25 = .ok (.iconst 0, 1) := by decide +kernel
theorem dX3_faultOf_26 : decode cX3_faultOf 26 = .ok (.istore 5, 2) := by decide +kernel
theorem dX3_faultOf_28 : decode cX3_faultOf 28 = .ok (.iload_n 1, 1) := by decide +kernel
theorem dX3_faultOf_29 : decode cX3_faultOf 29 = .ok (.lookupswitch 102 #[(0, 43), (1, 54), (40, 66), (41, 91)], 43) := by decide +kernel
theorem dX3_faultOf_72 : decode cX3_faultOf 72 = .ok (.iload 5, 2) := by decide +kernel
theorem dX3_faultOf_74 : decode cX3_faultOf 74 = .ok (.ifCond .eq 7, 3) := by decide +kernel
theorem dX3_faultOf_77 : decode cX3_faultOf 77 = .ok (.iconst 2, 1) := by decide +kernel
theorem dX3_faultOf_78 : decode cX3_faultOf 78 = .ok (.goto 4, 3) := by decide +kernel
theorem dX3_faultOf_81 : decode cX3_faultOf 81 = .ok (.iconst 0, 1) := by decide +kernel
theorem dX3_faultOf_82 : decode cX3_faultOf 82 = .ok (.ireturn, 1) := by decide +kernel
theorem dX3_faultOf_83 : decode cX3_faultOf 83 = .ok (.iload_n 2, 1) := by decide +kernel
theorem dX3_faultOf_84 : decode cX3_faultOf 84 = .ok (.bipush 40, 2) := by decide +kernel
theorem dX3_faultOf_86 : decode cX3_faultOf 86 = .ok (.if_icmp .ne 7, 3) := by decide +kernel
theorem dX3_faultOf_89 : decode cX3_faultOf 89 = .ok (.iconst 0, 1) := by decide +kernel
theorem dX3_faultOf_90 : decode cX3_faultOf 90 = .ok (.goto 4, 3) := by decide +kernel
theorem dX3_faultOf_93 : decode cX3_faultOf 93 = .ok (.iconst 2, 1) := by decide +kernel
theorem dX3_faultOf_94 : decode cX3_faultOf 94 = .ok (.ireturn, 1) := by decide +kernel
theorem dX3_faultOf_95 : decode cX3_faultOf 95 = .ok (.iload 4, 2) := by decide +kernel
theorem dX3_faultOf_97 : decode cX3_faultOf 97 = .ok (.ifCond .le 10, 3) := by decide +kernel
theorem dX3_faultOf_100 : decode cX3_faultOf 100 = .ok (.iload 5, 2) := by decide +kernel
theorem dX3_faultOf_102 : decode cX3_faultOf 102 = .ok (.ifCond .ne 5, 3) := by decide +kernel
theorem dX3_faultOf_105 : decode cX3_faultOf 105 = .ok (.iconst 2, 1) := by decide +kernel
theorem dX3_faultOf_106 : decode cX3_faultOf 106 = .ok (.ireturn, 1) := by decide +kernel
theorem dX3_faultOf_107 : decode cX3_faultOf 107 = .ok (.iload 4, 2) := by decide +kernel
theorem dX3_faultOf_109 : decode cX3_faultOf 109 = .ok (.bipush 64, 2) := by decide +kernel
theorem dX3_faultOf_111 : decode cX3_faultOf 111 = .ok (.if_icmp .ge 7, 3) := by decide +kernel
theorem dX3_faultOf_114 : decode cX3_faultOf 114 = .ok (.iconst 0, 1) := by decide +kernel
theorem dX3_faultOf_115 : decode cX3_faultOf 115 = .ok (.goto 4, 3) := by decide +kernel
theorem dX3_faultOf_118 : decode cX3_faultOf 118 = .ok (.iconst 5, 1) := by decide +kernel
theorem dX3_faultOf_119 : decode cX3_faultOf 119 = .ok (.ireturn, 1) := by decide +kernel
theorem dX3_faultOf_120 : decode cX3_faultOf 120 = .ok (.iload 5, 2) := by decide +kernel
theorem dX3_faultOf_122 : decode cX3_faultOf 122 = .ok (.ifCond .eq 7, 3) := by decide +kernel
theorem dX3_faultOf_125 : decode cX3_faultOf 125 = .ok (.iconst 0, 1) := by decide +kernel
theorem dX3_faultOf_126 : decode cX3_faultOf 126 = .ok (.goto 4, 3) := by decide +kernel
theorem dX3_faultOf_129 : decode cX3_faultOf 129 = .ok (.iconst 2, 1) := by decide +kernel
theorem dX3_faultOf_130 : decode cX3_faultOf 130 = .ok (.ireturn, 1) := by decide +kernel
theorem dX3_faultOf_131 : decode cX3_faultOf 131 = .ok (.iconst 1, 1) := by decide +kernel
theorem dX3_faultOf_132 : decode cX3_faultOf 132 = .ok (.ireturn, 1) := by decide +kernel
set_option maxRecDepth 20000 in
theorem ggX3_take_X1_append : GoodIn wsX3_take wsX1_append := goodIn_r _ [6, 7, 8, 9, 33, 34, 35, 36, 37, 38] rfl (by decide +kernel)
set_option maxRecDepth 20000 in
theorem gX3_take_X1_append : GoodIn wsX3_take (wsV RX3 62 RX1 yX1_append wsX1_append) := goodIn_app (goodIn_of _ (by decide +kernel)) ggX3_take_X1_append
set_option maxRecDepth 20000 in
theorem ggX3_take_X1_opensAhead : GoodIn wsX3_take wsX1_opensAhead := goodIn_r _ [13, 14, 15, 16, 5, 17, 8, 9, 18, 19, 20, 21, 22, 23, 24, 25, 26, 27, 28, 29, 33, 34, 35, 36, 37, 38] rfl (by decide +kernel)
set_option maxRecDepth 20000 in
theorem gX3_take_X1_opensAhead : GoodIn wsX3_take (wsV RX3 55 RX1 yX1_opensAhead wsX1_opensAhead) := goodIn_app (goodIn_of _ (by decide +kernel)) ggX3_take_X1_opensAhead
theorem dX3_take_0 : decode cX3_take 0 = .ok (.iload_n 1, 1) := by decide +kernel
theorem dX3_take_1 : decode cX3_take 1 = .ok (.bipush 41, 2) := by decide +kernel
theorem dX3_take_3 : decode cX3_take 3 = .ok (.if_icmp .ne 12, 3) := by decide +kernel
theorem dX3_take_6 : decode cX3_take 6 = .ok (.aload_n 2, 1) := by decide +kernel
theorem dX3_take_7 : decode cX3_take 7 = .ok (.getfield 19, 3) := by decide +kernel
theorem dX3_take_10 : decode cX3_take 10 = .ok (.iconst 0, 1) := by decide +kernel
theorem dX3_take_11 : decode cX3_take 11 = .ok (.invokevirtual 62, 3) := by decide +kernel
theorem dX3_take_14 : decode cX3_take 14 = .ok (.return_, 1) := by decide +kernel
theorem dX3_take_15 : decode cX3_take 15 = .ok (.aload_n 2, 1) := by decide +kernel
theorem dX3_take_16 : decode cX3_take 16 = .ok (.getfield 19, 3) := by decide +kernel
theorem dX3_take_19 : decode cX3_take 19 = .ok (.aload_n 2, 1) := by decide +kernel
theorem dX3_take_20 : decode cX3_take 20 = .ok (.getfield 19, 3) := by decide +kernel
theorem dX3_take_23 : decode cX3_take 23 = .ok (.getfield 52, 3) := by decide +kernel
theorem dX3_take_26 : decode cX3_take 26 = .ok (.invokevirtual 55, 3) := by decide +kernel
theorem dX3_take_29 : decode cX3_take 29 = .ok (.istore_n 3, 1) := by decide +kernel
theorem dX3_take_30 : decode cX3_take 30 = .ok (.iload_n 1, 1) := by decide +kernel
theorem dX3_take_31 : decode cX3_take 31 = .ok (.bipush 40, 2) := by decide +kernel
theorem dX3_take_33 : decode cX3_take 33 = .ok (.if_icmp .ne 27, 3) := by decide +kernel
theorem dX3_take_36 : decode cX3_take 36 = .ok (.iload_n 3, 1) := by decide +kernel
theorem dX3_take_37 : decode cX3_take 37 = .ok (.bipush 64, 2) := by decide +kernel
theorem dX3_take_39 : decode cX3_take 39 = .ok (.if_icmp .ge 21, 3) := by decide +kernel
theorem dX3_take_42 : decode cX3_take 42 = .ok (.aload_n 2, 1) := by decide +kernel
theorem dX3_take_43 : decode cX3_take 43 = .ok (.getfield 19, 3) := by decide +kernel
theorem dX3_take_46 : decode cX3_take 46 = .ok (.iconst 1, 1) := by decide +kernel
theorem dX3_take_47 : decode cX3_take 47 = .ok (.invokevirtual 62, 3) := by decide +kernel
theorem dX3_take_50 : decode cX3_take 50 = .ok (.aload_n 2, 1) := by decide +kernel
theorem dX3_take_51 : decode cX3_take 51 = .ok (.getfield 65, 3) := by decide +kernel
theorem dX3_take_54 : decode cX3_take 54 = .ok (.iload_n 3, 1) := by decide +kernel
theorem dX3_take_55 : decode cX3_take 55 = .ok (.iconst 0, 1) := by decide +kernel
theorem dX3_take_56 : decode cX3_take 56 = .ok (.iastore, 1) := by decide +kernel
theorem dX3_take_57 : decode cX3_take 57 = .ok (.goto 24, 3) := by decide +kernel
theorem dX3_take_60 : decode cX3_take 60 = .ok (.iload_n 1, 1) := by decide +kernel
theorem dX3_take_61 : decode cX3_take 61 = .ok (.iconst 1, 1) := by decide +kernel
theorem dX3_take_62 : decode cX3_take 62 = .ok (.if_icmp .ne 19, 3) := by decide +kernel
theorem dX3_take_65 : decode cX3_take 65 = .ok (.iload_n 3, 1) := by decide +kernel
theorem dX3_take_66 : decode cX3_take 66 = .ok (.ifCond .le 15, 3) := by decide +kernel
theorem dX3_take_69 : decode cX3_take 69 = .ok (.aload_n 2, 1) := by decide +kernel
theorem dX3_take_70 : decode cX3_take 70 = .ok (.getfield 65, 3) := by decide +kernel
theorem dX3_take_73 : decode cX3_take 73 = .ok (.iload_n 3, 1) := by decide +kernel
theorem dX3_take_74 : decode cX3_take 74 = .ok (.iconst 1, 1) := by decide +kernel
theorem dX3_take_75 : decode cX3_take 75 = .ok (.isub, 1) := by decide +kernel
theorem dX3_take_76 : decode cX3_take 76 = .ok (.aload_n 0, 1) := by decide +kernel
theorem dX3_take_77 : decode cX3_take 77 = .ok (.getfield 69, 3) := by decide +kernel
theorem dX3_take_80 : decode cX3_take 80 = .ok (.iastore, 1) := by decide +kernel
theorem dX3_take_81 : decode cX3_take 81 = .ok (.return_, 1) := by decide +kernel
set_option maxRecDepth 20000 in
theorem ggX3_nextToken_X3_isFigure : GoodIn wsX3_nextToken wsX3_isFigure := goodIn_r _ [8] rfl (by decide +kernel)
set_option maxRecDepth 20000 in
theorem gX3_nextToken_X3_isFigure : GoodIn wsX3_nextToken (va_wsS RX3 75 yX3_isFigure wsX3_isFigure) := goodIn_app (goodIn_of _ (by decide +kernel)) ggX3_nextToken_X3_isFigure
set_option maxRecDepth 20000 in
theorem ggX3_nextToken_X3_numberToken : GoodIn wsX3_nextToken wsX3_numberToken := goodIn_r _ [12, 13, 1, 2, 3, 4, 5, 6, 7, 8, 14, 15, 16, 17, 18, 19] rfl (by decide +kernel)
set_option maxRecDepth 20000 in
theorem gX3_nextToken_X3_numberToken : GoodIn wsX3_nextToken (wsV RX3 79 RX3 yX3_numberToken wsX3_numberToken) := goodIn_app (goodIn_of _ (by decide +kernel)) ggX3_nextToken_X3_numberToken
theorem dX3_nextToken_0 : decode cX3_nextToken 0 = .ok (.aload_n 0, 1) := by decide +kernel
theorem dX3_nextToken_1 : decode cX3_nextToken 1 = .ok (.getfield 30, 3) := by decide +kernel
theorem dX3_nextToken_4 : decode cX3_nextToken 4 = .ok (.aload_n 0, 1) := by decide +kernel
theorem dX3_nextToken_5 : decode cX3_nextToken 5 = .ok (.getfield 15, 3) := by decide +kernel
theorem dX3_nextToken_8 : decode cX3_nextToken 8 = .ok (.if_icmp .ge 30, 3) := by decide +kernel
theorem dX3_nextToken_11 : decode cX3_nextToken 11 = .ok (.aload_n 0, 1) := by decide +kernel
theorem dX3_nextToken_12 : decode cX3_nextToken 12 = .ok (.getfield 9, 3) := by decide +kernel
theorem dX3_nextToken_15 : decode cX3_nextToken 15 = .ok (.aload_n 0, 1) := by decide +kernel
theorem dX3_nextToken_16 : decode cX3_nextToken 16 = .ok (.getfield 30, 3) := by decide +kernel
theorem dX3_nextToken_19 : decode cX3_nextToken 19 = .ok (.baload, 1) := by decide +kernel
theorem dX3_nextToken_20 : decode cX3_nextToken 20 = .ok (.bipush 32, 2) := by decide +kernel
theorem dX3_nextToken_22 : decode cX3_nextToken 22 = .ok (.if_icmp .ne 16, 3) := by decide +kernel
theorem dX3_nextToken_25 : decode cX3_nextToken 25 = .ok (.aload_n 0, 1) := by decide +kernel
theorem dX3_nextToken_26 : decode cX3_nextToken 26 = .ok (.dup, 1) := by decide +kernel
theorem dX3_nextToken_27 : decode cX3_nextToken 27 = .ok (.getfield 30, 3) := by decide +kernel
theorem dX3_nextToken_30 : decode cX3_nextToken 30 = .ok (.iconst 1, 1) := by decide +kernel
theorem dX3_nextToken_31 : decode cX3_nextToken 31 = .ok (.iadd, 1) := by decide +kernel
theorem dX3_nextToken_32 : decode cX3_nextToken 32 = .ok (.putfield 30, 3) := by decide +kernel
theorem dX3_nextToken_35 : decode cX3_nextToken 35 = .ok (.goto (-35), 3) := by decide +kernel
theorem dX3_nextToken_38 : decode cX3_nextToken 38 = .ok (.aload_n 0, 1) := by decide +kernel
theorem dX3_nextToken_39 : decode cX3_nextToken 39 = .ok (.aload_n 0, 1) := by decide +kernel
theorem dX3_nextToken_40 : decode cX3_nextToken 40 = .ok (.getfield 30, 3) := by decide +kernel
theorem dX3_nextToken_43 : decode cX3_nextToken 43 = .ok (.putfield 72, 3) := by decide +kernel
theorem dX3_nextToken_46 : decode cX3_nextToken 46 = .ok (.aload_n 0, 1) := by decide +kernel
theorem dX3_nextToken_47 : decode cX3_nextToken 47 = .ok (.getfield 30, 3) := by decide +kernel
theorem dX3_nextToken_50 : decode cX3_nextToken 50 = .ok (.aload_n 0, 1) := by decide +kernel
theorem dX3_nextToken_51 : decode cX3_nextToken 51 = .ok (.getfield 15, 3) := by decide +kernel
theorem dX3_nextToken_54 : decode cX3_nextToken 54 = .ok (.if_icmp .lt 5, 3) := by decide +kernel
theorem dX3_nextToken_57 : decode cX3_nextToken 57 = .ok (.iconst 0, 1) := by decide +kernel
theorem dX3_nextToken_58 : decode cX3_nextToken 58 = .ok (.ireturn, 1) := by decide +kernel
theorem dX3_nextToken_59 : decode cX3_nextToken 59 = .ok (.aload_n 0, 1) := by decide +kernel
theorem dX3_nextToken_60 : decode cX3_nextToken 60 = .ok (.getfield 9, 3) := by decide +kernel
theorem dX3_nextToken_63 : decode cX3_nextToken 63 = .ok (.aload_n 0, 1) := by decide +kernel
theorem dX3_nextToken_64 : decode cX3_nextToken 64 = .ok (.getfield 30, 3) := by decide +kernel
theorem dX3_nextToken_67 : decode cX3_nextToken 67 = .ok (.baload, 1) := by decide +kernel
theorem dX3_nextToken_68 : decode cX3_nextToken 68 = .ok (.istore_n 1, 1) := by decide +kernel
theorem dX3_nextToken_69 : decode cX3_nextToken 69 = .ok (.iload_n 1, 1) := by decide +kernel
theorem dX3_nextToken_70 : decode cX3_nextToken 70 = .ok (.invokestatic 75, 3) := by decide +kernel
theorem dX3_nextToken_73 : decode cX3_nextToken 73 = .ok (.ifCond .eq 8, 3) := by decide +kernel
theorem dX3_nextToken_76 : decode cX3_nextToken 76 = .ok (.aload_n 0, 1) := by decide +kernel
theorem dX3_nextToken_77 : decode cX3_nextToken 77 = .ok (.invokevirtual 79, 3) := by decide +kernel
theorem dX3_nextToken_80 : decode cX3_nextToken 80 = .ok (.ireturn, 1) := by decide +kernel
theorem dX3_nextToken_81 : decode cX3_nextToken 81 = .ok (.aload_n 0, 1) := by decide +kernel
theorem dX3_nextToken_82 : decode cX3_nextToken 82 = .ok (.dup, 1) := by decide +kernel
theorem dX3_nextToken_83 : decode cX3_nextToken 83 = .ok (.getfield 30, 3) := by decide +kernel
theorem dX3_nextToken_86 : decode cX3_nextToken 86 = .ok (.iconst 1, 1) := by decide +kernel
theorem dX3_nextToken_87 : decode cX3_nextToken 87 = .ok (.iadd, 1) := by decide +kernel
theorem dX3_nextToken_88 : decode cX3_nextToken 88 = .ok (.putfield 30, 3) := by decide +kernel
theorem dX3_nextToken_91 : decode cX3_nextToken 91 = .ok (.iload_n 1, 1) := by decide +kernel
theorem dX3_nextToken_92 : decode cX3_nextToken 92 = .ok (.bipush 40, 2) := by decide +kernel
theorem dX3_nextToken_94 : decode cX3_nextToken 94 = .ok (.if_icmp .eq 9, 3) := by decide +kernel
theorem dX3_nextToken_97 : decode cX3_nextToken 97 = .ok (.iload_n 1, 1) := by decide +kernel
theorem dX3_nextToken_98 : decode cX3_nextToken 98 = .ok (.bipush 41, 2) := by decide +kernel
theorem dX3_nextToken_100 : decode cX3_nextToken 100 = .ok (.if_icmp .ne 7, 3) := by decide +kernel
theorem dX3_nextToken_103 : decode cX3_nextToken 103 = .ok (.iload_n 1, 1) := by decide +kernel
theorem dX3_nextToken_104 : decode cX3_nextToken 104 = .ok (.goto 4, 3) := by decide +kernel
theorem dX3_nextToken_107 : decode cX3_nextToken 107 = .ok (.iconst 2, 1) := by decide +kernel
theorem dX3_nextToken_108 : decode cX3_nextToken 108 = .ok (.ireturn, 1) := by decide +kernel
set_option maxRecDepth 20000 in
theorem ggX3_numberToken_X3_isFigure : GoodIn wsX3_numberToken wsX3_isFigure := goodIn_r _ [9] rfl (by decide +kernel)
set_option maxRecDepth 20000 in
theorem gX3_numberToken_X3_isFigure : GoodIn wsX3_numberToken (va_wsS RX3 75 yX3_isFigure wsX3_isFigure) := goodIn_app (goodIn_of _ (by decide +kernel)) ggX3_numberToken_X3_isFigure
theorem dX3_numberToken_0 : decode cX3_numberToken 0 = .ok (.aload_n 0, 1) := by decide +kernel
theorem dX3_numberToken_1 : decode cX3_numberToken 1 = .ok (.iconst 0, 1) := by decide +kernel
theorem dX3_numberToken_2 : decode cX3_numberToken 2 = .ok (.putfield 69, 3) := by decide +kernel
theorem dX3_numberToken_5 : decode cX3_numberToken 5 = .ok (.aload_n 0, 1) := by decide +kernel
theorem dX3_numberToken_6 : decode cX3_numberToken 6 = .ok (.getfield 30, 3) := by decide +kernel
theorem dX3_numberToken_9 : decode cX3_numberToken 9 = .ok (.aload_n 0, 1) := by decide +kernel
theorem dX3_numberToken_10 : decode cX3_numberToken 10 = .ok (.getfield 15, 3) := by decide +kernel
theorem dX3_numberToken_13 : decode cX3_numberToken 13 = .ok (.if_icmp .ge 55, 3) := by decide +kernel
theorem dX3_numberToken_16 : decode cX3_numberToken 16 = .ok (.aload_n 0, 1) := by decide +kernel
theorem dX3_numberToken_17 : decode cX3_numberToken 17 = .ok (.getfield 9, 3) := by decide +kernel
theorem dX3_numberToken_20 : decode cX3_numberToken 20 = .ok (.aload_n 0, 1) := by decide +kernel
theorem dX3_numberToken_21 : decode cX3_numberToken 21 = .ok (.getfield 30, 3) := by decide +kernel
theorem dX3_numberToken_24 : decode cX3_numberToken 24 = .ok (.baload, 1) := by decide +kernel
theorem dX3_numberToken_25 : decode cX3_numberToken 25 = .ok (.invokestatic 75, 3) := by decide +kernel
theorem dX3_numberToken_28 : decode cX3_numberToken 28 = .ok (.ifCond .eq 40, 3) := by decide +kernel
theorem dX3_numberToken_31 : decode cX3_numberToken 31 = .ok (.aload_n 0, 1) := by decide +kernel
theorem dX3_numberToken_32 : decode cX3_numberToken 32 = .ok (.bipush 10, 2) := by decide +kernel
theorem dX3_numberToken_34 : decode cX3_numberToken 34 = .ok (.aload_n 0, 1) := by decide +kernel
theorem dX3_numberToken_35 : decode cX3_numberToken 35 = .ok (.getfield 69, 3) := by decide +kernel
theorem dX3_numberToken_38 : decode cX3_numberToken 38 = .ok (.imul, 1) := by decide +kernel
theorem dX3_numberToken_39 : decode cX3_numberToken 39 = .ok (.aload_n 0, 1) := by decide +kernel
theorem dX3_numberToken_40 : decode cX3_numberToken 40 = .ok (.getfield 9, 3) := by decide +kernel
theorem dX3_numberToken_43 : decode cX3_numberToken 43 = .ok (.aload_n 0, 1) := by decide +kernel
theorem dX3_numberToken_44 : decode cX3_numberToken 44 = .ok (.getfield 30, 3) := by decide +kernel
theorem dX3_numberToken_47 : decode cX3_numberToken 47 = .ok (.baload, 1) := by decide +kernel
theorem dX3_numberToken_48 : decode cX3_numberToken 48 = .ok (.iadd, 1) := by decide +kernel
theorem dX3_numberToken_49 : decode cX3_numberToken 49 = .ok (.bipush 48, 2) := by decide +kernel
theorem dX3_numberToken_51 : decode cX3_numberToken 51 = .ok (.isub, 1) := by decide +kernel
theorem dX3_numberToken_52 : decode cX3_numberToken 52 = .ok (.putfield 69, 3) := by decide +kernel
theorem dX3_numberToken_55 : decode cX3_numberToken 55 = .ok (.aload_n 0, 1) := by decide +kernel
theorem dX3_numberToken_56 : decode cX3_numberToken 56 = .ok (.dup, 1) := by decide +kernel
theorem dX3_numberToken_57 : decode cX3_numberToken 57 = .ok (.getfield 30, 3) := by decide +kernel
theorem dX3_numberToken_60 : decode cX3_numberToken 60 = .ok (.iconst 1, 1) := by decide +kernel
theorem dX3_numberToken_61 : decode cX3_numberToken 61 = .ok (.iadd, 1) := by decide +kernel
theorem dX3_numberToken_62 : decode cX3_numberToken 62 = .ok (.putfield 30, 3) := by decide +kernel
theorem dX3_numberToken_65 : decode cX3_numberToken 65 = .ok (.goto (-60), 3) := by decide +kernel
theorem dX3_numberToken_68 : decode cX3_numberToken 68 = .ok (.aload_n 0, 1) := by decide +kernel
theorem dX3_numberToken_69 : decode cX3_numberToken 69 = .ok (.getfield 30, 3) := by decide +kernel
theorem dX3_numberToken_72 : decode cX3_numberToken 72 = .ok (.aload_n 0, 1) := by decide +kernel
theorem dX3_numberToken_73 : decode cX3_numberToken 73 = .ok (.getfield 72, 3) := by decide +kernel
theorem dX3_numberToken_76 : decode cX3_numberToken 76 = .ok (.isub, 1) := by decide +kernel
theorem dX3_numberToken_77 : decode cX3_numberToken 77 = .ok (.iconst 4, 1) := by decide +kernel
theorem dX3_numberToken_78 : decode cX3_numberToken 78 = .ok (.if_icmp .gt 7, 3) := by decide +kernel
theorem dX3_numberToken_81 : decode cX3_numberToken 81 = .ok (.iconst 1, 1) := by decide +kernel
theorem dX3_numberToken_82 : decode cX3_numberToken 82 = .ok (.goto 4, 3) := by decide +kernel
theorem dX3_numberToken_85 : decode cX3_numberToken 85 = .ok (.iconst 2, 1) := by decide +kernel
theorem dX3_numberToken_86 : decode cX3_numberToken 86 = .ok (.ireturn, 1) := by decide +kernel
theorem dX3_isFigure_0 : decode cX3_isFigure 0 = .ok (.iload_n 0, 1) := by decide +kernel
theorem dX3_isFigure_1 : decode cX3_isFigure 1 = .ok (.bipush 48, 2) := by decide +kernel
theorem dX3_isFigure_3 : decode cX3_isFigure 3 = .ok (.if_icmp .lt 13, 3) := by decide +kernel
theorem dX3_isFigure_6 : decode cX3_isFigure 6 = .ok (.iload_n 0, 1) := by decide +kernel
theorem dX3_isFigure_7 : decode cX3_isFigure 7 = .ok (.bipush 57, 2) := by decide +kernel
theorem dX3_isFigure_9 : decode cX3_isFigure 9 = .ok (.if_icmp .gt 7, 3) := by decide +kernel
theorem dX3_isFigure_12 : decode cX3_isFigure 12 = .ok (.iconst 1, 1) := by decide +kernel
theorem dX3_isFigure_13 : decode cX3_isFigure 13 = .ok (.goto 4, 3) := by decide +kernel
theorem dX3_isFigure_16 : decode cX3_isFigure 16 = .ok (.iconst 0, 1) := by decide +kernel
theorem dX3_isFigure_17 : decode cX3_isFigure 17 = .ok (.ireturn, 1) := by decide +kernel
